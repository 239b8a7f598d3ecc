/** Promise 11: far. */
final class Promise11 extends Checks {
    static void check() {
        promise(11);
        lastRound();
        paths();
        noPath();
        unknown();
        conflicts();
        great();
    }

    private static void lastRound() {
        sentence("Returns the distance from one term to another one in the last round of the exchange.");
        JoinedTheories x = with("a<b", "b<a", "f(a)<c+4", "f(b)<c+1", "f(b)<d+3", "c<f(b)-1");
        due("far(5,2), by f(b)", x.far(5, 2), 1);
        due("far(6,2)", x.far(6, 2), 1);
        due("far(5,3), by f(b)", x.far(5, 3), 3);
        due("far(2,5), by f(b)", x.far(2, 5), -1);
        due("far(2,3)", x.far(2, 3), 2);
        due("far(0,1)", x.far(0, 1), 0);
        due("far(5,6)", x.far(5, 6), 0);
    }

    private static void paths() {
        sentence("the smallest sum of the weights of a path of steps from s to t");
        JoinedTheories x = with("a<b+3", "b<c-5", "a<c+7", "d=c", "f(c)<a", "f(d)<e+2", "a<b+4");
        due("far(0,1), the smaller of two bounds", x.far(0, 1), 3);
        due("far(0,2), two steps before one", x.far(0, 2), -2);
        due("far(0,3), by an equality", x.far(0, 3), -2);
        due("far(5,4), by congruence", x.far(5, 4), 2);
        due("far(6,1)", x.far(6, 1), 3);
        due("far(6,3)", x.far(6, 3), -2);
        due("apart(0,3), the same here", x.apart(0, 3), -2);
        sentence("(so the distance from a term to itself is at most 0)");
        for (int t = 0; t < 7; t++) {
            due("far(" + t + "," + t + ")", x.far(t, t), 0);
        }
        due("far(0,0) with a<a+5", with("a<a+5").far(0, 0), 0);
        due("far(0,1), inequalities being no steps", with("a<b", "a#b").far(0, 1), 0);
    }

    private static void noPath() {
        sentence("NONE if there is no path");
        JoinedTheories x = with("a<b+3", "b<c-5", "d#a");
        due("far(2,0)", x.far(2, 0), NONE);
        due("far(1,0)", x.far(1, 0), NONE);
        due("far(3,0)", x.far(3, 0), NONE);
        due("far(0,4)", x.far(0, 4), NONE);
        due("far(0,2)", x.far(0, 2), -2);
        due("far(0,1) of a new object", new JoinedTheories().far(0, 1), NONE);
    }

    private static void unknown() {
        sentence("UNKNOWN if one of the terms does not exist");
        JoinedTheories x = with("f(a)<b");
        for (int t : new int[] {LEAST, -1, 6, 9, 10, MOST}) {
            dueError(x, x.digest(), "far(0," + t + ")", x.far(0, t), UNKNOWN);
            dueError(x, x.digest(), "far(" + t + ",0)", x.far(t, 0), UNKNOWN);
            due("far(" + t + "," + t + ")", x.far(t, t), UNKNOWN);
        }
        sentence("`s`: a term - `t`: a term");
        due("far(5,1), the last term", x.far(5, 1), 0);
        x.drop(0);
        due("far(5,1) after drop()", x.far(5, 1), UNKNOWN);
        due("far(9,0) of ten terms", with("f(f(f(f(f(a)))))<a-9").far(9, 0), -9);
        due("far(10,0) of ten terms", with("f(f(f(f(f(a)))))<a-9").far(10, 0), UNKNOWN);
    }

    private static void conflicts() {
        sentence("STATE if there is a conflict");
        String[][] conflicts = {{"a#a"}, {"a<a-1"}, {"a=b", "f(a)#f(b)"}, {"a<b", "b<a", "a#b"}, {"a<b", "b<a", "f(a)<f(b)-1"}};
        for (String[] texts : conflicts) {
            JoinedTheories x = with(texts);
            for (int t = 0; t < 5; t++) {
                dueError(x, x.digest(), "far(0," + t + ") of " + joined(texts), x.far(0, t), STATE);
            }
            sentence("Each method names its errors in the order in which they are checked, and the first one that applies is returned.");
            due("far(0,9) of " + joined(texts), x.far(0, 9), UNKNOWN);
            due("far(-1,0) of " + joined(texts), x.far(-1, 0), UNKNOWN);
            sentence("STATE if there is a conflict");
        }
        JoinedTheories cases = with("a<b", "b<a+1", "c#a", "c#b", "a<c", "c<b");
        due("holds() where only cases contradict each other", cases.holds(), 0);
        due("far(1,0) there, where there is no conflict", cases.far(1, 0), 1);
        due("far(0,3) there", cases.far(0, 3), NONE);
    }

    private static void great() {
        sentence("Returns the distance");
        JoinedTheories x = enlarged("a<b+2");
        enter(x, "b<c+1");
        enter(x, "b<d-1");
        due("far(0,1)", x.far(0, 1), 2000000000);
        due("far(0,3)", x.far(0, 3), 1999999999);
        sentence("GREAT if it is above 2000000000 or below -2000000000");
        dueError(x, x.digest(), "far(0,2), 2000000001", x.far(0, 2), GREAT);
        x.scale(-1);
        due("far(0,1)", x.far(0, 1), -2000000000);
        due("far(0,3)", x.far(0, 3), -1999999999);
        dueError(x, x.digest(), "far(0,2), -2000000001", x.far(0, 2), GREAT);

        // Sums that an int would wrap around.
        JoinedTheories sums = enlarged("a<b+2", "b<c+2", "c<d-2", "c<e+2");
        due("far(0,2), 4000000000", sums.far(0, 2), GREAT);
        due("far(0,4), 6000000000", sums.far(0, 4), GREAT);
        due("far(0,3), 2000000000 by way of 4000000000", sums.far(0, 3), 2000000000);
        JoinedTheories many = enlarged("a<b+2", "b<c+2", "c<d+2", "d<e+2", "e<f(a)+2", "f(a)<f(b)+2", "f(b)<f(c)+2", "f(c)<f(d)+2", "f(d)<f(e)+2");
        due("far(0,9), 18000000000", many.far(0, 9), GREAT);
        many.scale(-1);
        due("far(0,9), -18000000000", many.far(0, 9), GREAT);
        due("far(9,0)", many.far(9, 0), NONE);

        sentence("Each method names its errors in the order in which they are checked, and the first one that applies is returned.");
        enter(sums, "a#a");
        due("far(0,2) with a conflict", sums.far(0, 2), STATE);
        due("far(0,5) with a conflict", sums.far(0, 5), UNKNOWN);
        sentence("NONE means \"there is none\" and is returned only if no error applies.");
        due("far(3,0) without a path, with a conflict", sums.far(3, 0), STATE);
    }
}
