/** For each promise of the document: ordinary inputs, the edges that it names, and wrong inputs. */
public final class PromiseChecks {
    private static final int NONE = -2000000001, UNKNOWN = -2000000002, OUTSIDE = -2000000003, STATE = -2000000004, FULL = -2000000005, GREAT = -2000000006;
    private static final int LEAST = Integer.MIN_VALUE, MOST = Integer.MAX_VALUE;
    private static int wrong = 0;

    private static void due(String call, long got, long want) {
        if (got != want) {
            wrong++;
            System.out.println(call + " answered " + got + ", due is " + want);
        }
    }

    private static void write(JoinedTheories x, String text) {
        x.blank();
        for (int i = 0; i < text.length(); i++) {
            x.letter(text.charAt(i));
        }
    }

    private static int enter(JoinedTheories x, String text) {
        write(x, text);
        return x.add();
    }

    private static JoinedTheories with(String... texts) {
        JoinedTheories x = new JoinedTheories();
        for (int k = 0; k < texts.length; k++) {
            due("add() of " + texts[k], enter(x, texts[k]), k);
        }
        return x;
    }

    /** A call that returns an error changes nothing. */
    private static void dueError(JoinedTheories x, long before, String call, long got, long want) {
        due(call, got, want);
        due("digest() after " + call, x.digest(), before);
    }

    private static void newObject() {
        JoinedTheories x = new JoinedTheories();
        for (int what = 0; what < 6; what++) {
            due("count(" + what + ") of a new object", x.count(what), what == 1 ? 5 : 0);
        }
        due("blank() of a new object", x.blank(), 0);
        due("fault() of a new object", x.fault(), 0);
        due("holds() of a new object", x.holds(), 1);
        due("exchange(1) of a new object", x.exchange(1), 1);
        due("literal(0,0) of a new object", x.literal(0, 0), UNKNOWN);
        due("NONE", JoinedTheories.NONE, NONE);
        due("UNKNOWN", JoinedTheories.UNKNOWN, UNKNOWN);
        due("OUTSIDE", JoinedTheories.OUTSIDE, OUTSIDE);
        due("STATE", JoinedTheories.STATE, STATE);
        due("FULL", JoinedTheories.FULL, FULL);
        due("GREAT", JoinedTheories.GREAT, GREAT);
        JoinedTheories other = new JoinedTheories();
        x.letter('a');
        due("count(2) of another object", other.count(2), 0);
    }

    private static void letters() {
        JoinedTheories x = new JoinedTheories();
        for (int code : new int[] {LEAST, -1, 0, 31, 127, 128, MOST}) {
            due("letter(" + code + ")", x.letter(code), OUTSIDE);
        }
        due("letter(32)", x.letter(32), 1);
        due("letter(126)", x.letter(126), 2);
        for (int n = 3; n <= 40; n++) {
            due("letter(97) as number " + n, x.letter(97), n);
        }
        due("letter(97) on a full page", x.letter(97), FULL);
        due("letter(31) on a full page", x.letter(31), OUTSIDE);
        due("count(2) of a full page", x.count(2), 40);
    }

    private static void blanks() {
        JoinedTheories x = new JoinedTheories();
        write(x, "a=b");
        due("blank()", x.blank(), 3);
        due("blank() again", x.blank(), 0);
        due("letter(99) after blank()", x.letter('c'), 1);
        due("add() after blank()", x.add(), STATE);
    }

    private static void faults() {
        String[] pages = {
            "", "a", "a=b", "a#b", "a<b", "a<b+1", "a<b-999999", "f(", "g(a,", "g(a,b)", "f(f(f(f(f(f(f(f(f(f(f(f(f(f(f(f(f(f(f(f(",
            "g(g(g(g(g(g(g(g(g(g(g(g(g(g(g(g(g(g(g(g(", "f(f(f(f(f(f(f(f(f(f(f(f(a))))))))))))=e", "g(f(a),g(b,c))<e+12", "a<b+", "a<b-"};
        for (String page : pages) {
            faultIs(page, page.length());
        }
        faultIs("h", 0);
        faultIs("A", 0);
        faultIs(" a=b", 0);
        faultIs("1", 0);
        faultIs("=", 0);
        faultIs("ab", 1);
        faultIs("a =b", 1);
        faultIs("f=a", 1);
        faultIs("f(a,b)", 3);
        faultIs("f()", 2);
        faultIs("g(a)", 3);
        faultIs("g(a,b,c)", 5);
        faultIs("g(a,)", 4);
        faultIs("a)", 1);
        faultIs("f(a=b)", 3);
        faultIs("a==b", 2);
        faultIs("a>b", 1);
        faultIs("a=b=c", 3);
        faultIs("a=b+1", 3);
        faultIs("a#b-1", 3);
        faultIs("a+1<b", 1);
        faultIs("a<b1", 3);
        faultIs("a<b+0", 4);
        faultIs("a<b-0", 4);
        faultIs("a<b+-1", 4);
        faultIs("a<b+01", 4);
        faultIs("a<b+1a", 5);
        faultIs("a<b+1+1", 5);
        faultIs("a<b+100", 7);
        faultIs("a<b+999999", 10);
        faultIs("a<b+1000000", 10);
        faultIs("a<b-9999990", 10);
        faultIs("a=b ", 3);
        faultIs("a=f(b))", 6);
        faultIs("zzz", 0);
    }

    private static void faultIs(String page, int index) {
        JoinedTheories x = new JoinedTheories();
        write(x, page);
        due("fault() of " + page, x.fault(), index);
        due("fault() of " + page + " again", x.fault(), index);
        due("count(2) after fault() of " + page, x.count(2), page.length());
    }

    private static void adding() {
        for (String page : new String[] {"", "a", "a=", "a<b+", "a<b-", "f(a", "f(a)", "g(a,b)", "a=b ", "a=b+1", "a<b+0", "a<b+1000000", "a=f(b", "x"}) {
            JoinedTheories x = new JoinedTheories();
            write(x, page);
            dueError(x, x.digest(), "add() of " + page, x.add(), STATE);
            due("count(2) after add() of " + page, x.count(2), page.length());
        }
        JoinedTheories x = with("a=b", "b#c", "c<d", "d<e+999999", "e<a-1");
        due("count(2) after add()", x.count(2), 0);
        due("number of c<d", x.literal(2, 3), 0);
        due("number of d<e+999999", x.literal(3, 3), 999999);
        due("number of e<a-1", x.literal(4, 3), -1);
        for (int k = 5; k < 10; k++) {
            due("add() of a=a", enter(x, "a=a"), k);
        }
        write(x, "a=b");
        dueError(x, x.digest(), "add() of an eleventh literal", x.add(), FULL);
        due("page after add() of an eleventh literal", x.count(2), 3);
        write(x, "a=");
        due("add() of no literal with ten literals", x.add(), STATE);
        addingTooManyTerms();
    }

    private static void addingTooManyTerms() {
        JoinedTheories x = with("f(a)=f(b)", "f(c)=f(d)");
        write(x, "f(e)=g(a,a)");
        dueError(x, x.digest(), "add() with an eleventh term", x.add(), FULL);
        due("count(1) after it", x.count(1), 9);
        due("page after it", x.count(2), 11);
        due("term(9,0) after it", x.term(9, 0), UNKNOWN);
        due("blank() after it", x.blank(), 11);
        due("add() of the tenth term", enter(x, "f(e)=f(a)"), 2);
        due("add() of known terms only", enter(x, "f(e)=f(d)"), 3);
        due("add() of f(f(a))", enter(x, "f(f(a))=a"), FULL);
        due("drop(0)", x.drop(0), 3);
        due("add() of f(f(a)) with room", enter(x, "f(f(a))=a"), 3);
    }

    private static void dropping() {
        JoinedTheories x = with("f(a)=b", "g(f(b),a)#c", "f(f(a))<d-3", "f(b)=e");
        for (int k : new int[] {LEAST, -1, 4, 10, MOST}) {
            dueError(x, x.digest(), "drop(" + k + ")", x.drop(k), UNKNOWN);
        }
        due("count(1)", x.count(1), 9);
        due("literal(2,1) before", x.literal(2, 1), 8);
        due("drop(1)", x.drop(1), 3);
        due("count(1) after drop(1)", x.count(1), 8);
        due("literal(1,1) after drop(1)", x.literal(1, 1), 6);
        due("literal(1,3) after drop(1)", x.literal(1, 3), -3);
        due("literal(2,1) after drop(1)", x.literal(2, 1), 7);
        due("term(6,1) after drop(1)", x.term(6, 1), 5);
        due("term(7,1) after drop(1)", x.term(7, 1), 1);
        due("drop(0)", x.drop(0), 2);
        due("literal(0,1) after drop(0)", x.literal(0, 1), 6);
        due("term(5,1) after drop(0)", x.term(5, 1), 0);
        due("drop(1) of the last", x.drop(1), 1);
        due("drop(0) of the only one", x.drop(0), 0);
        due("drop(0) of none", x.drop(0), UNKNOWN);
        due("count(1) without literals", x.count(1), 5);
        due("count(4)", x.count(4), 4);
        droppingWithBothArguments();
    }

    private static void droppingWithBothArguments() {
        JoinedTheories x = with("f(e)=e", "g(f(a),f(b))=g(a,f(a))");
        due("count(1) before", x.count(1), 10);
        due("drop(0)", x.drop(0), 1);
        int[][] want = {{1, 0, NONE}, {1, 1, NONE}, {2, 5, 6}, {2, 0, 5}};
        for (int t = 5; t < 9; t++) {
            for (int what = 0; what < 3; what++) {
                due("term(" + t + "," + what + ") after drop(0)", x.term(t, what), want[t - 5][what]);
            }
        }
        due("literal(0,1) after drop(0)", x.literal(0, 1), 7);
        due("literal(0,2) after drop(0)", x.literal(0, 2), 8);
        due("term(7,3) after drop(0)", x.term(7, 3), 12);
        due("count(1) after drop(0)", x.count(1), 9);
    }

    private static void scaling() {
        JoinedTheories x = with("a<b+3", "b<c", "c<d-999999", "a=e", "b#e");
        for (int times : new int[] {LEAST, -1001, 1001, MOST}) {
            dueError(x, x.digest(), "scale(" + times + ")", x.scale(times), OUTSIDE);
        }
        due("scale(1)", x.scale(1), 0);
        due("scale(1000)", x.scale(1000), 2);
        due("literal(2,3)", x.literal(2, 3), -999999000);
        due("scale(-2)", x.scale(-2), 2);
        due("literal(2,3)", x.literal(2, 3), 1999998000);
        due("literal(0,3)", x.literal(0, 3), -6000);
        due("literal(3,3)", x.literal(3, 3), 0);
        dueError(x, x.digest(), "scale(2) beyond the limit", x.scale(2), GREAT);
        dueError(x, x.digest(), "scale(-1000) beyond the limit", x.scale(-1000), GREAT);
        due("literal(0,3) after GREAT", x.literal(0, 3), -6000);
        due("scale(-1)", x.scale(-1), 2);
        due("scale(0)", x.scale(0), 2);
        due("scale(0) again", x.scale(0), 0);
        due("scale(1000) of zeros", x.scale(1000), 0);
        JoinedTheories edge = with("a<b+2");
        due("scale(1000) to 2000", edge.scale(1000), 1);
        due("scale(1000) to 2000000", edge.scale(1000), 1);
        due("scale(1000) to 2000000000", edge.scale(1000), 1);
        due("literal(0,3) at the limit", edge.literal(0, 3), 2000000000);
        due("scale(-1) at the limit", edge.scale(-1), 1);
        due("apart(0,1) at the limit", edge.apart(0, 1), -2000000000);
        due("far(0,1) at the limit", edge.far(0, 1), -2000000000);
        due("scale(0) of no literals", new JoinedTheories().scale(0), 0);
        JoinedTheories first = with("a<b+3000", "a<b+2");
        due("scale(1000)", first.scale(1000), 2);
        dueError(first, first.digest(), "scale(1000), too much for literal 0 only", first.scale(1000), GREAT);
        JoinedTheories known = with("a<b-1", "b<a", "c<d-1", "d<c+2", "c<e", "e<d");
        due("holds() before scale(0)", known.holds(), 0);
        due("exchange(0) before scale(0)", known.exchange(0), 1);
        due("scale(0)", known.scale(0), 3);
        due("holds() after scale(0)", known.holds(), 1);
        due("exchange(0) after scale(0)", known.exchange(0), 0);
        due("exchange(2) after scale(0)", known.exchange(2), 2);
        JoinedTheories pairs = with("a<b-1", "b<a+1", "a<c", "c<b");
        due("either(0) before scale(2)", pairs.either(0), 2);
        due("scale(2)", pairs.scale(2), 2);
        due("either(0) after scale(2)", pairs.either(0), NONE);
    }

    private static void literalProperties() {
        JoinedTheories x = with("a=f(b)", "g(a,f(b))#c", "d<e-17", "d<e");
        int[][] want = {{0, 0, 5, 0}, {1, 6, 2, 0}, {2, 3, 4, -17}, {2, 3, 4, 0}};
        for (int k = 0; k < 4; k++) {
            for (int what = 0; what < 4; what++) {
                due("literal(" + k + "," + what + ")", x.literal(k, what), want[k][what]);
            }
        }
        for (int wrongNumber : new int[] {LEAST, -1, 4, MOST}) {
            due("literal(" + wrongNumber + ",0)", x.literal(wrongNumber, 0), UNKNOWN);
            due("literal(" + wrongNumber + ",9)", x.literal(wrongNumber, 9), UNKNOWN);
            due("literal(0," + wrongNumber + ")", x.literal(0, wrongNumber), OUTSIDE);
        }
    }

    private static void termProperties() {
        JoinedTheories x = with("f(a)=g(b,f(a))", "f(a)#f(g(b,f(a)))", "f(a)<f(a)+1");
        int[][] want = {
            {0, NONE, NONE, 1, 0, 0}, {0, NONE, NONE, 1, 1, 0}, {0, NONE, NONE, 1, 2, 0}, {0, NONE, NONE, 1, 3, 0},
            {0, NONE, NONE, 1, 4, 0}, {1, 0, NONE, 4, 5, 3}, {2, 1, 5, 9, 5, 1}, {1, 6, NONE, 12, 7, 1}};
        for (int t = 0; t < 8; t++) {
            for (int what = 0; what < 6; what++) {
                due("term(" + t + "," + what + ")", x.term(t, what), want[t][what]);
            }
        }
        for (int wrongNumber : new int[] {LEAST, -1, 8, 10, MOST}) {
            due("term(" + wrongNumber + ",0)", x.term(wrongNumber, 0), UNKNOWN);
            due("term(" + wrongNumber + ",9)", x.term(wrongNumber, 9), UNKNOWN);
            due("term(0," + wrongNumber + ")", x.term(0, wrongNumber), OUTSIDE);
        }
        JoinedTheories order = with("g(f(e),f(d))=g(f(c),a)");
        int[] firsts = {4, 3, 5, 2, 8};
        for (int t = 5; t < 10; t++) {
            due("term(" + t + ",1) in order", order.term(t, 1), firsts[t - 5]);
        }
        due("term(7,2) in order", order.term(7, 2), 6);
        due("term(9,2) in order", order.term(9, 2), 0);
    }

    private static void exchangeIs(String[] texts, int conflict, int rounds, int classes) {
        JoinedTheories x = with(texts);
        String of = " of " + String.join(" ", texts);
        due("exchange(0)" + of, x.exchange(0), conflict);
        due("exchange(1)" + of, x.exchange(1), rounds);
        due("exchange(2)" + of, x.exchange(2), classes);
        for (int what : new int[] {LEAST, -1, 3, MOST}) {
            due("exchange(" + what + ")" + of, x.exchange(what), OUTSIDE);
        }
    }

    private static void exchanging() {
        exchangeIs(new String[] {}, 0, 1, 5);
        exchangeIs(new String[] {"a=b", "b=c"}, 0, 1, 3);
        exchangeIs(new String[] {"a=b", "b=c", "a#c"}, 1, 1, 3);
        exchangeIs(new String[] {"a#a"}, 1, 1, 5);
        exchangeIs(new String[] {"a<a-1"}, 1, 1, 5);
        exchangeIs(new String[] {"a<a+1"}, 0, 1, 5);
        exchangeIs(new String[] {"a<b", "b<a"}, 0, 2, 4);
        exchangeIs(new String[] {"a<b+1", "b<a-1"}, 0, 1, 5);
        exchangeIs(new String[] {"a<b", "b<c", "c<a"}, 0, 2, 3);
        exchangeIs(new String[] {"a<b", "b<a", "f(a)#f(b)"}, 1, 2, 5);
        exchangeIs(new String[] {"a<b", "b<a", "f(a)<f(b)-1"}, 1, 2, 5);
        exchangeIs(new String[] {"a=b", "g(a,c)#g(b,d)"}, 0, 1, 6);
        exchangeIs(new String[] {"a=b", "c=d", "g(a,c)#g(b,d)"}, 1, 1, 4);
        exchangeIs(new String[] {"f(a)=a", "f(f(f(a)))#a"}, 1, 1, 5);
        exchangeIs(new String[] {"a<b", "b<a", "f(a)=c", "f(b)=d", "d<e", "e<c", "f(d)#f(e)"}, 1, 3, 3);
        exchangeIs(new String[] {"a#b", "b#c", "a#c", "a<b+1", "b<a+1", "b<c+1", "c<b+1", "a<c+1", "c<a+1"}, 0, 1, 5);
        exchangeIs(new String[] {"f(c)#f(d)", "c=f(a)", "d=f(b)", "a=b"}, 1, 1, 4);
        exchangeIs(new String[] {"g(c,a)#g(d,b)", "c=f(a)", "d=f(b)", "a<b", "b<a"}, 1, 2, 4);
        JoinedTheories x = with("c<b", "b<c", "e=c");
        due("term(4,4)", x.term(4, 4), 1);
        due("term(2,4)", x.term(2, 4), 1);
        due("term(3,4)", x.term(3, 4), 3);
    }

    private static void distances() {
        JoinedTheories x = with("a<b+3", "b<c-5", "a<c+7", "d=c", "f(c)<a", "f(d)<e+2");
        due("far(0,2)", x.far(0, 2), -2);
        due("far(0,3)", x.far(0, 3), -2);
        due("far(2,0)", x.far(2, 0), NONE);
        due("far(0,0)", x.far(0, 0), 0);
        due("far(4,4)", x.far(4, 4), 0);
        due("far(5,4)", x.far(5, 4), 2);
        due("far(6,1)", x.far(6, 1), 3);
        for (int t : new int[] {LEAST, -1, 7, 10, MOST}) {
            due("far(0," + t + ")", x.far(0, t), UNKNOWN);
            due("far(" + t + ",0)", x.far(t, 0), UNKNOWN);
        }
        due("add() of a#a", enter(x, "a#a"), 6);
        due("far(0,2) with a conflict", x.far(0, 2), STATE);
        due("far(0,9) with a conflict", x.far(0, 9), UNKNOWN);
        JoinedTheories round = with("a<b", "b<a", "f(a)<c+4", "c<f(b)-4");
        due("far(5,2) in the last round", round.far(5, 2), 4);
        due("far(6,2) in the last round", round.far(6, 2), 4);
        due("far(2,5) in the last round", round.far(2, 5), -4);
        JoinedTheories great = with("a<b+500001", "b<c+500000", "d<e-500001", "e<a-500000");
        due("scale(1000)", great.scale(1000), 4);
        due("scale(2)", great.scale(2), 4);
        due("far(0,1)", great.far(0, 1), 1000002000);
        due("far(0,2)", great.far(0, 2), GREAT);
        due("far(1,2)", great.far(1, 2), 1000000000);
        due("far(3,0)", great.far(3, 0), GREAT);
        due("far(3,2)", great.far(3, 2), 0);
        due("apart(0,2)", great.apart(0, 2), GREAT);
        due("apart(3,0)", great.apart(3, 0), GREAT);
        due("apart(3,2)", great.apart(3, 2), 0);
    }

    private static void holdsIs(int want, String... texts) {
        due("holds() of " + String.join(" ", texts), with(texts).holds(), want);
    }

    private static void solutions() {
        holdsIs(1);
        holdsIs(0, "a#a");
        holdsIs(0, "a<a-1");
        holdsIs(1, "a<a");
        holdsIs(0, "a=b", "a#b");
        holdsIs(0, "a=b", "f(a)#f(b)");
        holdsIs(1, "f(a)=f(b)", "a#b");
        holdsIs(0, "a<b", "b<a+1", "c#a", "c#b", "a<c", "c<b");
        holdsIs(1, "a<b", "b<a+2", "c#a", "c#b", "a<c", "c<b");
        holdsIs(0, "a<b", "b<a+1", "f(a)=c", "f(b)=c", "a<d", "d<b", "f(d)#c");
        holdsIs(0, "g(a,b)#g(b,a)", "a=b");
        holdsIs(1, "g(a,b)#g(b,a)", "a<b", "b<a+1");
        holdsIs(0, "g(a,b)#g(c,d)", "a<c", "c<a+1", "b=d", "a#e", "c#e", "c<a", "f(e)=e");
        holdsIs(1, "f(a)=b", "f(b)=a", "a#b");
        holdsIs(0, "f(f(f(a)))=a", "f(f(f(f(f(a)))))=a", "f(a)#a");
    }

    private static void differences() {
        JoinedTheories x = with("a<b", "b<a+1", "c#a", "a<c", "c<b");
        due("apart(2,0)", x.apart(2, 0), 1);
        due("apart(0,2)", x.apart(0, 2), -1);
        due("apart(0,1)", x.apart(0, 1), -1);
        due("apart(3,0)", x.apart(3, 0), NONE);
        due("apart(0,3)", x.apart(0, 3), NONE);
        due("apart(3,3)", x.apart(3, 3), 0);
        for (int t : new int[] {LEAST, -1, 5, 10, MOST}) {
            due("apart(0," + t + ")", x.apart(0, t), UNKNOWN);
            due("apart(" + t + ",0)", x.apart(t, 0), UNKNOWN);
        }
        due("add() of d<d-1", enter(x, "d<d-1"), 5);
        due("apart(0,1) without solution", x.apart(0, 1), STATE);
        due("apart(0,5) without solution", x.apart(0, 5), UNKNOWN);
        JoinedTheories both = with("a#b", "b<a+5", "a<b+5", "f(a)#f(c)", "c<b", "b<c");
        due("apart(0,1) of an inequality", both.apart(0, 1), 5);
        due("apart(1,0) of an inequality", both.apart(1, 0), 5);
        due("apart(5,6)", both.apart(5, 6), NONE);
        JoinedTheories function = with("a=b", "f(a)<f(b)");
        due("apart(5,6) of equal arguments", function.apart(5, 6), 0);
        due("apart(6,5) of equal arguments", function.apart(6, 5), 0);
        String[][] arguments = {{"g(a,b)#g(a,c)", "b<c"}, {"g(a,c)#g(a,b)", "b<c"}, {"g(b,a)#g(c,a)", "b<c"}, {"f(c)#f(b)", "b<c"}};
        for (String[] texts : arguments) {
            due("apart(1,2) of " + String.join(" ", texts), with(texts).apart(1, 2), -1);
            due("apart(2,1) of " + String.join(" ", texts), with(texts).apart(2, 1), NONE);
        }
        JoinedTheories holes = with("a<b", "b#a", "c#b", "c<b", "b<c+1", "a<c", "c#a");
        due("apart(0,1) with holes", holes.apart(0, 1), -2);
        due("apart(1,0) with holes", holes.apart(1, 0), NONE);
    }

    private static void implications() {
        JoinedTheories x = with("a<b", "b<a+1", "c=a", "a#b", "f(a)=d", "f(e)#d");
        int[][] cases = {
            {0, 2, 0, 1}, {0, 2, 1, 0}, {0, 2, 2, 1}, {2, 0, 2, 1}, {0, 1, 0, 0}, {0, 1, 1, 1}, {0, 1, 2, 1}, {1, 0, 2, 0},
            {0, 4, 0, 0}, {0, 4, 1, 1}, {0, 4, 2, 0}, {4, 4, 0, 1}, {4, 4, 1, 0}, {4, 4, 2, 1}, {1, 4, 1, 0}, {5, 3, 0, 1}};
        for (int[] c : cases) {
            due("implied(" + c[0] + "," + c[1] + "," + c[2] + ")", x.implied(c[0], c[1], c[2]), c[3]);
        }
        for (String text : new String[] {"f(a)<f(b)", "f(b)<f(a)", "g(a,c)<g(b,c)", "g(c,b)<g(c,a)", "f(a)<f(b)+1"}) {
            due("implied(0,1,1) of " + text, with(text).implied(0, 1, 1), 0);
            due("implied(0,1,0) of " + text, with(text).implied(0, 1, 0), 0);
        }
        for (String text : new String[] {"f(a)#f(b)", "f(b)<f(a)-1", "g(a,c)#g(b,c)", "g(c,b)<g(c,a)-1"}) {
            due("implied(0,1,1) of " + text, with(text).implied(0, 1, 1), 1);
            due("implied(1,0,1) of " + text, with(text).implied(1, 0, 1), 1);
            due("implied(0,1,2) of " + text, with(text).implied(0, 1, 2), 0);
        }
        for (int n : new int[] {LEAST, -1, 7, MOST}) {
            due("implied(" + n + ",0,0)", x.implied(n, 0, 0), UNKNOWN);
            due("implied(0," + n + ",9)", x.implied(0, n, 9), UNKNOWN);
            due("implied(0,0," + n + ")", x.implied(0, 0, n), OUTSIDE);
        }
        due("implied(0,0,3)", x.implied(0, 0, 3), OUTSIDE);
        due("add() of a=b", enter(x, "a=b"), 6);
        due("implied(0,0,0) without solution", x.implied(0, 0, 0), STATE);
        due("implied(0,0,3) without solution", x.implied(0, 0, 3), OUTSIDE);
        due("implied(0,9,0) without solution", x.implied(0, 9, 0), UNKNOWN);
    }

    private static void reasons() {
        due("why() of a new object", new JoinedTheories().why(), STATE);
        due("why() with a solution", with("a=b", "c#d").why(), STATE);
        due("why() of one", with("a=b", "a#a").why(), 2);
        due("why() keeps the smaller numbers", with("a=b", "a#b", "c=d", "c#d").why(), 3);
        due("why() of an unlike pair", with("a=b", "c=d", "e<e+1", "c#d", "a#a").why(), 10);
        due("why() with congruence", with("d=e", "a=b", "f(f(a))#f(f(b))", "f(a)=c").why(), 6);
        due("why() of cases", with("a<b", "b<a+1", "d=e", "c#a", "c#b", "a<c", "c<b").why(), 122);
        JoinedTheories x = with("a<b-1", "b<a", "a=b", "a#b");
        long before = x.digest();
        due("why() of several reasons", x.why(), 3);
        due("digest() after why()", x.digest(), before);
    }

    private static void eitherIs(int first, int second, String... texts) {
        JoinedTheories x = with(texts);
        due("either(0) of " + String.join(" ", texts), x.either(0), first);
        due("either(1) of " + String.join(" ", texts), x.either(1), second);
        due("count(5) after both", x.count(5), first == STATE ? 0 : 2);
    }

    private static void disjunctions() {
        eitherIs(NONE, NONE);
        eitherIs(NONE, NONE, "a=b", "c=d");
        eitherIs(STATE, STATE, "a=b", "b#a");
        eitherIs(2, 12, "a<b-1", "b<a+1", "a<c", "c<b");
        eitherIs(1, 2, "b<c-1", "c<b+1", "b<a", "a<c");
        eitherIs(24, 34, "c<d-1", "d<c+1", "c<e", "e<d");
        eitherIs(13, 23, "b<c-1", "c<b+1", "b<d", "d<c");
        eitherIs(4, 14, "a<e", "e<b", "b<a+1");
        eitherIs(2, 4, "a<c+1", "c<a", "a<e+1", "e<a", "c#e");
        eitherIs(2, 4, "e<c-1", "c<e+1", "a<c", "e<a");
        eitherIs(2, 12, "a<b-1", "b<a+1", "a<c", "c<b", "d=c");
        eitherIs(NONE, NONE, "a<b-2", "b<a+2", "a<c", "c<b");
        countingEither();
    }

    private static void countingEither() {
        JoinedTheories x = with("a<b-1", "b<a+1", "a<c", "c<b");
        for (int what : new int[] {LEAST, -1, 2, MOST}) {
            due("either(" + what + ")", x.either(what), OUTSIDE);
        }
        due("count(5) after errors", x.count(5), 0);
        due("add() of a=b", enter(x, "a=b"), 4);
        due("either(0) without solution", x.either(0), STATE);
        due("count(5) without solution", x.count(5), 0);
        due("drop(4)", x.drop(4), 4);
        for (int call = 1; call <= 11; call++) {
            due("either() as call " + call, x.either(call % 2), call % 2 == 0 ? 2 : 12);
            due("count(5) after call " + call, x.count(5), call);
        }
        due("drop(3)", x.drop(3), 3);
        due("either(0) as call 12", x.either(0), NONE);
        due("count(5) after call 12", x.count(5), 12);
        due("either(0) as call 13", x.either(0), STATE);
        due("either(2) as call 13", x.either(2), OUTSIDE);
        due("count(5) after call 13", x.count(5), 12);
    }

    private static void counts() {
        JoinedTheories x = with("f(a)=b", "g(a,b)#c", "a<b");
        due("drop(1)", x.drop(1), 2);
        due("add() of a=b", enter(x, "a=b"), 2);
        due("drop(9)", x.drop(9), UNKNOWN);
        due("either(0)", x.either(0), NONE);
        write(x, "a=");
        due("add() of a=", x.add(), STATE);
        int[] want = {3, 6, 2, 4, 1, 1};
        for (int what = 0; what < 6; what++) {
            due("count(" + what + ")", x.count(what), want[what]);
        }
        for (int what : new int[] {LEAST, -1, 6, MOST}) {
            due("count(" + what + ")", x.count(what), OUTSIDE);
        }
    }

    private static long digestOf(long... values) {
        long h = 1609;
        for (long v : values) {
            h = 31 * h + v;
        }
        return h;
    }

    private static void digests() {
        JoinedTheories x = new JoinedTheories();
        long n = NONE;
        due("digest() of a new object", x.digest(), digestOf(
            0, n, n, 1, 0, 0, 0, n, n, 1, 1, 0, 0, n, n, 1, 2, 0, 0, n, n, 1, 3, 0, 0, n, n, 1, 4, 0,
            0, 1, 5, 1, 0, 5, 0, 0, 0, 0));
        enter(x, "b<a-2");
        enter(x, "f(a)#f(b)");
        enter(x, "a=b");
        x.drop(2);
        x.either(0);
        write(x, "a ~");
        due("digest()", x.digest(), digestOf(
            2, 1, 0, -2, 1, 5, 6, 0,
            0, n, n, 1, 0, 1, 0, n, n, 1, 1, 1, 0, n, n, 1, 2, 0, 0, n, n, 1, 3, 0, 0, n, n, 1, 4, 0,
            1, 0, n, 4, 5, 1, 1, 1, n, 4, 6, 1,
            0, 1, 7, 1, 97, 32, 126, 2, 7, 3, 3, 1, 1));
        long before = x.digest();
        due("digest() again", x.digest(), before);
    }

    public static void main(String[] args) {
        newObject();
        letters();
        blanks();
        faults();
        adding();
        dropping();
        scaling();
        literalProperties();
        termProperties();
        exchanging();
        distances();
        solutions();
        differences();
        implications();
        reasons();
        disjunctions();
        counts();
        digests();
        System.out.println(wrong == 0 ? "all answers are as due" : wrong + " answers are not as due");
        if (wrong != 0) {
            System.exit(1);
        }
    }
}
