/** Promise 9: term. */
final class Promise09 extends Checks {
    static void check() {
        promise(9);
        sentence("Returns a property of a term.");
        sentence("Returns it");
        JoinedTheories x = with("f(a)=g(b,f(a))", "f(a)#f(g(b,f(a)))", "f(a)<f(a)+1");
        int[][] want = {
            {0, NONE, NONE, 1, 0, 0}, {0, NONE, NONE, 1, 1, 0}, {0, NONE, NONE, 1, 2, 0}, {0, NONE, NONE, 1, 3, 0},
            {0, NONE, NONE, 1, 4, 0}, {1, 0, NONE, 4, 5, 3}, {2, 1, 5, 9, 5, 1}, {1, 6, NONE, 12, 7, 1}};
        String[] properties = {
            "`what`: 0 for 0 a name, 1 with f, 2 with g", "1 its first argument (NONE if it has none)", "2 its second argument (NONE if it has none)",
            "3 the length of its text", "4 the smallest term that is the same after the exchange", "5 in how many literals it is the left or the right term"};
        for (int what = 0; what < 6; what++) {
            sentence(properties[what]);
            for (int t = 0; t < 8; t++) {
                due("term(" + t + "," + what + ")", x.term(t, what), want[t][what]);
            }
        }
        lengths();
        smallest();
        literalsWithIt();
        errors(x);
    }

    private static void lengths() {
        sentence("3 the length of its text");
        JoinedTheories x = with("f(f(f(f(f(a)))))=b");
        int[] want = {4, 7, 10, 13, 16};
        for (int t = 5; t < 10; t++) {
            due("term(" + t + ",3)", x.term(t, 3), want[t - 5]);
        }
        JoinedTheories y = with("g(g(g(g(a,b),c),d),e)=a");
        int[] wide = {6, 11, 16, 21};
        for (int t = 5; t < 9; t++) {
            due("term(" + t + ",3) with g", y.term(t, 3), wide[t - 5]);
        }
        JoinedTheories both = with("g(g(g(a,a),g(a,a)),g(g(a,a),g(a,a)))=a");
        due("term(7,3) of the longest", both.term(7, 3), 36);
    }

    private static void smallest() {
        sentence("4 the smallest term that is the same after the exchange");
        JoinedTheories x = with("e=c", "c<b", "b<c", "f(e)=d", "f(b)#a");
        int[] want = {0, 1, 1, 3, 1, 3, 3};
        for (int t = 0; t < 7; t++) {
            due("term(" + t + ",4)", x.term(t, 4), want[t]);
        }
        JoinedTheories conflict = with("a=b", "f(a)#c", "f(b)#d", "a<b-1", "c<d", "d<c");
        int[] after = {0, 0, 2, 3, 4, 5, 5};
        for (int t = 0; t < 7; t++) {
            due("term(" + t + ",4) after a conflict in the first round", conflict.term(t, 4), after[t]);
        }
        JoinedTheories unequal = with("a=b", "a#b", "c<d", "d<c");
        due("term(1,4) after a conflict by an inequality", unequal.term(1, 4), 0);
        due("term(3,4) after a conflict by an inequality", unequal.term(3, 4), 2);
    }

    private static void literalsWithIt() {
        sentence("(a literal in which it is both counts once)");
        JoinedTheories x = with("a=a", "a<b", "b#a", "f(c)=f(c)", "f(c)<d", "f(f(c))#f(c)");
        int[] want = {3, 2, 0, 1, 0, 3, 1};
        for (int t = 0; t < 7; t++) {
            due("term(" + t + ",5)", x.term(t, 5), want[t]);
        }
        JoinedTheories all = with("a=a", "a=b", "b=a", "a#c", "c#a", "a<d", "d<a", "a<a+1", "f(a)=a", "a=f(a)");
        due("term(0,5) of ten literals", all.term(0, 5), 10);
        due("term(5,5)", all.term(5, 5), 2);
        due("term(4,5)", all.term(4, 5), 0);
    }

    private static void errors(JoinedTheories x) {
        sentence("UNKNOWN if there is no such term");
        for (int t : new int[] {LEAST, -1, 8, 9, 10, MOST}) {
            for (int what = 0; what < 6; what++) {
                due("term(" + t + "," + what + ")", x.term(t, what), UNKNOWN);
            }
        }
        sentence("`term`: a term");
        due("term(0,3), the first one", x.term(0, 3), 1);
        due("term(7,3), the last one", x.term(7, 3), 12);
        due("term(5,0) of a new object", new JoinedTheories().term(5, 0), UNKNOWN);
        JoinedTheories full = with("f(f(f(f(f(a)))))=a");
        due("term(9,0) of ten", full.term(9, 0), 1);
        dueError(full, full.digest(), "term(10,0) of ten", full.term(10, 0), UNKNOWN);
        full.drop(0);
        for (int what = 0; what < 6; what++) {
            due("term(5," + what + ") after drop()", full.term(5, what), UNKNOWN);
        }
        sentence("OUTSIDE if what is not 0 to 5");
        for (int what : new int[] {LEAST, -1, 6, 7, MOST}) {
            for (int t : new int[] {0, 4, 5, 7}) {
                dueError(x, x.digest(), "term(" + t + "," + what + ")", x.term(t, what), OUTSIDE);
            }
        }
        sentence("Each method names its errors in the order in which they are checked, and the first one that applies is returned.");
        for (int what : new int[] {LEAST, -1, 6, MOST}) {
            for (int t : new int[] {LEAST, -1, 8, MOST}) {
                due("term(" + t + "," + what + ")", x.term(t, what), UNKNOWN);
            }
        }
        sentence("NONE means \"there is none\" and is returned only if no error applies.");
        for (int what = 1; what <= 2; what++) {
            due("term(4," + what + "), a name", x.term(4, what), NONE);
            due("term(8," + what + "), no term", x.term(8, what), UNKNOWN);
        }
    }
}
