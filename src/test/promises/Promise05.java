/** Promise 5: add. */
final class Promise05 extends Checks {
    static void check() {
        promise(5);
        adding();
        numbers();
        incomplete();
        tenLiterals();
        tenTerms();
        numbering();
    }

    private static void adding() {
        sentence("Adds the literal on the page, and empties the page.");
        JoinedTheories x = with("f(a)<g(b,c)-12");
        int[] want = {2, 5, 6, -12};
        for (int what = 0; what < 4; what++) {
            due("literal(0," + what + ")", x.literal(0, what), want[what]);
        }
        due("count(2) after add()", x.count(2), 0);
        due("add() once more", x.add(), STATE);
        due("count(0)", x.count(0), 1);
        due("letter(97) after add()", x.letter('a'), 1);

        sentence("Returns the number of the literal");
        sentence("There are at most 10 literals, numbered from 0 in the order in which they are added.");
        JoinedTheories y = new JoinedTheories();
        for (int k = 0; k < 10; k++) {
            due("add() number " + k, enter(y, "a<b+" + (k + 1)), k);
        }
        for (int k = 0; k < 10; k++) {
            due("literal(" + k + ",3)", y.literal(k, 3), k + 1);
        }
        JoinedTheories again = with("a=b", "a=b", "c#d");
        due("drop(0)", again.drop(0), 2);
        due("add() after drop()", enter(again, "a=b"), 2);

        JoinedTheories longest = with("g(f(f(a)),f(f(a)))=g(f(f(a)),f(f(a)))", "g(f(f(a)),f(f(a)))<g(f(f(a)),f(f(a)))+12");
        due("number of a literal of 40 characters", longest.literal(1, 3), 12);
        due("count(1)", longest.count(1), 8);
    }

    private static void numbers() {
        sentence("It is an equality (0, sign =), an inequality (1, sign #), or a bound (2, sign <).");
        JoinedTheories x = with("a=b", "a#b", "a<b");
        for (int k = 0; k < 3; k++) {
            due("literal(" + k + ",0)", x.literal(k, 0), k);
        }
        sentence("A bound has a number, which is 0 unless something else is written.");
        due("number of a<b", x.literal(2, 3), 0);
        sentence("A number is 1 to 999999 in decimal digits without leading zeros");
        for (int number : new int[] {1, 9, 10, 100000, 123456, 999998, 999999}) {
            due("number of a<b+" + number, with("a<b+" + number).literal(0, 3), number);
        }
        for (String page : new String[] {"a<b+0", "a<b+01", "a<b-00", "a<b+1000000", "a<b-1000000", "a<b+4294967297"}) {
            stateIs(page);
        }
        sentence("after - it is negative");
        for (int number : new int[] {1, 10, 999999}) {
            due("number of a<b-" + number, with("a<b-" + number).literal(0, 3), -number);
        }
        JoinedTheories both = with("a<b-7", "a<b+7", "a<b");
        due("number of a<b+7 after a<b-7", both.literal(1, 3), 7);
        due("number of a<b after them", both.literal(2, 3), 0);
    }

    private static void stateIs(String page) {
        JoinedTheories x = with("c<d+5");
        write(x, page);
        dueError(x, x.digest(), "add() of " + page, x.add(), STATE);
        due("count(2) after add() of " + page, x.count(2), page.length());
    }

    private static void incomplete() {
        sentence("STATE if the page is no complete literal");
        String[] pages = {
            "", "a", "f", "f(", "f(a", "f(a)", "g(a", "g(a,", "g(a,b", "g(a,b)", "a=", "a#", "a<", "a=f", "a=f(", "a=f(b", "a=g(b,", "a<b+", "a<b-",
            " ", " a=b", "a=b ", "a =b", "a=b=c", "a=b+1", "a#b-1", "a<b1", "a<b+1a", "a<b+1+1", "f(a))=b", "f(a,b)=c", "g(a)=b", "a>b", "h=a", "A=a",
            "aa=b", "a==b", "(a)=b", "f(f(f(f(f(f(f(f(f(f(f(f(f(f(f(f(f(f(f(f("};
        for (String page : pages) {
            stateIs(page);
        }
    }

    private static void tenLiterals() {
        sentence("FULL if there are 10 literals");
        JoinedTheories x = with("a=b", "b#c", "c<d", "d<e+999999", "e<a-1", "a=a", "a=a", "a=a", "a=a");
        due("add() of the tenth literal", enter(x, "f(a)=b"), 9);
        for (String page : new String[] {"a=b", "f(a)=b", "f(f(f(f(f(f(a))))))=a"}) {
            write(x, page);
            dueError(x, x.digest(), "add() of an eleventh literal " + page, x.add(), FULL);

            sentence("(the page stays then)");
            due("count(2) after it", x.count(2), page.length());
            due("fault() after it", x.fault(), page.length());
        }
        sentence("Each method names its errors in the order in which they are checked, and the first one that applies is returned.");
        for (String page : new String[] {"", "a=", "a=b ", "f(f(f(f(f(f(a))))))", "f(f(f(f(f(f(a))))))="}) {
            write(x, page);
            dueError(x, x.digest(), "add() of no literal with ten literals " + page, x.add(), STATE);
        }
        sentence("FULL: there is no room left.");
        write(x, "c=d");
        due("add() without room", x.add(), FULL);
        due("drop(4)", x.drop(4), 9);
        due("add() of the page that stayed", x.add(), 9);
        due("add() without room again", enter(x, "c=d"), FULL);
    }

    private static void fullIs(JoinedTheories x, String page) {
        int terms = x.count(1);
        write(x, page);
        dueError(x, x.digest(), "add() of " + page, x.add(), FULL);
        due("count(1) after it", x.count(1), terms);
        due("term(" + terms + ",0) after it", x.term(terms, 0), UNKNOWN);

        sentence("(the page stays then)");
        due("count(2) after add() of " + page, x.count(2), page.length());
    }

    private static void tenTerms() {
        sentence("There are at most 10 terms in all.");
        due("count(1) of five with f", with("f(f(f(f(f(a)))))=a").count(1), 10);
        due("count(1) of five with f on the right", with("a=f(f(f(f(f(a)))))").count(1), 10);
        due("count(1) of f and g on both sides", with("g(f(a),f(b))<g(f(c),a)+1").count(1), 10);
        due("count(1) of repeated ones", with("g(f(a),f(a))=g(f(a),f(a))").count(1), 7);

        sentence("or there would be more than 10 terms");
        for (String page : new String[] {
            "f(f(f(f(f(f(a))))))=a", "a=f(f(f(f(f(f(a))))))", "f(f(f(a)))#f(f(f(b)))", "g(f(a),f(b))<g(f(c),f(d))+7",
            "g(a,g(b,g(c,g(d,g(e,f(a))))))=e", "f(f(f(f(f(f(f(f(f(f(f(f(a))))))))))))=e"}) {
            sentence("or there would be more than 10 terms");
            fullIs(new JoinedTheories(), page);
        }
        JoinedTheories x = with("f(a)=f(b)", "f(c)=f(d)");
        fullIs(x, "f(e)=g(a,a)");
        fullIs(x, "a=f(f(e))");
        sentence("or there would be more than 10 terms");
        due("add() of the tenth term", enter(x, "f(e)=f(a)"), 2);
        due("add() of known terms only", enter(x, "f(e)<f(d)+3"), 3);
        fullIs(x, "f(f(a))=a");
        sentence("or there would be more than 10 terms");
        due("drop(0)", x.drop(0), 3);
        due("add() of the page that stayed", x.add(), 3);
        due("count(1)", x.count(1), 10);
    }

    private static void numbering() {
        sentence("All terms that occur, also within other terms, are numbered; the same term always has the same number.");
        JoinedTheories x = with("f(f(a))=b", "c#f(a)", "f(f(a))<f(a)");
        due("count(1)", x.count(1), 7);
        due("literal(0,1)", x.literal(0, 1), 6);
        due("literal(1,2)", x.literal(1, 2), 5);
        due("literal(2,1)", x.literal(2, 1), 6);
        due("literal(2,2)", x.literal(2, 2), 5);
        due("count(1) of g with its arguments in both orders", with("g(a,b)=g(b,a)").count(1), 7);
        due("count(1) of f and g", with("f(a)=g(a,a)").count(1), 7);

        sentence("The other ones are numbered from 5 on, going through the literals in ascending order, the left term before the right one, where the arguments of a term (the first one, then the second one) are numbered before the term itself.");
        JoinedTheories y = with("g(f(e),f(d))=f(c)", "a<g(f(c),b)");
        int[][] want = {{1, 4, NONE}, {1, 3, NONE}, {2, 5, 6}, {1, 2, NONE}, {2, 8, 1}};
        for (int t = 5; t < 10; t++) {
            for (int what = 0; what < 3; what++) {
                due("term(" + t + "," + what + ")", y.term(t, what), want[t - 5][what]);
            }
        }
        due("literal(0,1)", y.literal(0, 1), 7);
        due("literal(0,2)", y.literal(0, 2), 8);
        due("literal(1,2)", y.literal(1, 2), 9);
    }
}
