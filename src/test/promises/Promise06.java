/** Promise 6: drop. */
final class Promise06 extends Checks {
    static void check() {
        promise(6);
        sentence("Removes a literal; the numbers of those after it decrease by 1.");
        for (int gone = 0; gone < 10; gone++) {
            JoinedTheories x = new JoinedTheories();
            for (int k = 0; k < 10; k++) {
                enter(x, "a<b+" + (k + 1));
            }
            write(x, "c=");
            due("drop(" + gone + ")", x.drop(gone), 9);
            for (int k = 0; k < 9; k++) {
                due("literal(" + k + ",3) after drop(" + gone + ")", x.literal(k, 3), k < gone ? k + 1 : k + 2);
            }
            due("literal(9,3) after drop(" + gone + ")", x.literal(9, 3), UNKNOWN);
            due("count(2), the page being left alone", x.count(2), 2);
        }
        JoinedTheories kinds = with("a=b", "c#d", "d<e-4");
        due("drop(1)", kinds.drop(1), 2);
        int[] want = {2, 3, 4, -4};
        for (int what = 0; what < 4; what++) {
            due("literal(1," + what + ") after drop(1)", kinds.literal(1, what), want[what]);
        }

        sentence("`literal`: a literal");
        for (int k = 0; k < 3; k++) {
            due("drop(" + k + ") of three", with("a=b", "c#d", "d<e-4").drop(k), 2);
        }

        sentence("Returns how many literals are left");
        JoinedTheories all = with("f(a)=b", "a#b", "a<b", "c=d", "c=d", "c=d", "c=d", "c=d", "c=d", "c=d");
        for (int left = 9; left >= 0; left--) {
            due("drop(0)", all.drop(0), left);
        }
        due("count(1) without literals", all.count(1), 5);
        unknown();
        termsAnew();
        resultsAnew();
    }

    private static void unknown() {
        sentence("UNKNOWN if there is no such literal");
        sentence("Error codes: UNKNOWN: there is no such literal or term.");
        JoinedTheories none = new JoinedTheories();
        dueError(none, none.digest(), "drop(0) of none", none.drop(0), UNKNOWN);
        JoinedTheories x = with("a=b", "f(c)#d", "d<e-1");
        for (int k : new int[] {LEAST, -1, 3, 4, 9, 10, 31, 32, MOST}) {
            dueError(x, x.digest(), "drop(" + k + ")", x.drop(k), UNKNOWN);
        }
        due("drop(2), the greatest", x.drop(2), 2);
        dueError(x, x.digest(), "drop(2) again", x.drop(2), UNKNOWN);
        due("count(4)", x.count(4), 1);
        JoinedTheories full = with("a=b", "a=b", "a=b", "a=b", "a=b", "a=b", "a=b", "a=b", "a=b", "a=b");
        dueError(full, full.digest(), "drop(10) of ten", full.drop(10), UNKNOWN);
        due("drop(9) of ten", full.drop(9), 9);
    }

    private static void termsAnew() {
        sentence("The numbers are determined anew whenever the literals change.");
        JoinedTheories x = with("f(e)=e", "g(f(a),f(b))=g(a,f(a))");
        due("count(1) before", x.count(1), 10);
        due("drop(0)", x.drop(0), 1);
        int[][] want = {{1, 0, NONE, 4}, {1, 1, NONE, 4}, {2, 5, 6, 12}, {2, 0, 5, 9}};
        for (int t = 5; t < 9; t++) {
            for (int what = 0; what < 4; what++) {
                due("term(" + t + "," + what + ")", x.term(t, what), want[t - 5][what]);
            }
        }
        due("literal(0,1)", x.literal(0, 1), 7);
        due("literal(0,2)", x.literal(0, 2), 8);
        due("count(1)", x.count(1), 9);
        due("term(9,0)", x.term(9, 0), UNKNOWN);

        // f(b) is the first term with a function at first, and the last one then.
        JoinedTheories y = with("f(b)=b", "c=f(f(a))", "f(a)<f(b)");
        due("literal(2,1) before", y.literal(2, 1), 6);
        due("literal(2,2) before", y.literal(2, 2), 5);
        due("drop(0)", y.drop(0), 2);
        due("literal(0,2)", y.literal(0, 2), 6);
        due("literal(1,1)", y.literal(1, 1), 5);
        due("literal(1,2), now the last term", y.literal(1, 2), 7);
        due("term(7,1)", y.term(7, 1), 1);
        due("drop(1)", y.drop(1), 1);
        due("count(1), f(b) having gone", y.count(1), 7);
    }

    private static void resultsAnew() {
        sentence("Removes a literal");
        JoinedTheories x = with("a<b-1", "b<a+1", "a<c", "c<b", "a=b");
        due("holds()", x.holds(), 0);
        due("exchange(0)", x.exchange(0), 1);
        due("drop(4)", x.drop(4), 4);
        due("holds() without a=b", x.holds(), 1);
        due("exchange(0) without a=b", x.exchange(0), 0);
        due("either(0)", x.either(0), 2);
        due("apart(2,0)", x.apart(2, 0), 1);
        due("drop(3)", x.drop(3), 3);
        due("either(0) without c<b", x.either(0), NONE);
        due("apart(2,0) without c<b", x.apart(2, 0), NONE);
        due("far(2,1) without c<b", x.far(2, 1), NONE);

        // Nothing of g and its second arguments is left when literals without them come in its place.
        JoinedTheories y = with("g(a,b)=g(c,d)");
        due("holds() with g", y.holds(), 1);
        y.drop(0);
        due("add() of a#a", enter(y, "a#a"), 0);
        due("holds() of a#a", y.holds(), 0);
        JoinedTheories z = with("c#e", "g(a,b)=g(c,d)");
        due("holds() with g", z.holds(), 1);
        z.drop(1);
        z.drop(0);
        enter(z, "d#e");
        enter(z, "f(a)=d");
        enter(z, "f(b)=e");
        due("holds() of f", z.holds(), 1);
        due("implied(0,1,1) of f", z.implied(0, 1, 1), 1);
        enter(z, "a=b");
        due("holds() of f with equal arguments", z.holds(), 0);
    }
}
