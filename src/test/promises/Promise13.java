/** Promise 13: apart. */
final class Promise13 extends Checks {
    static void check() {
        promise(13);
        greatest();
        noLimit();
        unknown();
        noSolution();
        great();
    }

    private static void greatest() {
        sentence("Returns the greatest value that (value of s) - (value of t) has in any solution.");
        JoinedTheories x = with("a<b", "b<a+1", "c#a", "a<c", "c<b");
        due("apart(2,0)", x.apart(2, 0), 1);
        due("apart(0,2)", x.apart(0, 2), -1);
        due("apart(0,1)", x.apart(0, 1), -1);
        due("far(0,1)", x.far(0, 1), 0);
        for (int t = 0; t < 5; t++) {
            due("apart(" + t + "," + t + ")", x.apart(t, t), 0);
        }
        JoinedTheories both = with("a#b", "b<a+5", "a<b+5");
        due("apart(0,1) of an inequality", both.apart(0, 1), 5);
        due("apart(1,0) of an inequality", both.apart(1, 0), 5);
        JoinedTheories function = with("a=b", "f(a)<f(b)");
        due("apart(5,6) of equal arguments", function.apart(5, 6), 0);
        due("apart(6,5) of equal arguments", function.apart(6, 5), 0);
        JoinedTheories turned = with("a=b", "f(a)#c", "f(b)<f(a)");
        due("apart(5,6) of equal arguments, bounded the other way", turned.apart(5, 6), 0);
        due("apart(6,5) of equal arguments, bounded the other way", turned.apart(6, 5), 0);
        JoinedTheories holes = with("a<b", "b#a", "c#b", "c<b", "b<c+1", "a<c", "c#a");
        due("apart(0,1) with holes", holes.apart(0, 1), -2);
        String[][] arguments = {{"g(a,b)#g(a,c)", "b<c"}, {"g(a,c)#g(a,b)", "b<c"}, {"g(b,a)#g(c,a)", "b<c"}, {"f(c)#f(b)", "b<c"}};
        for (String[] texts : arguments) {
            due("apart(1,2) of " + joined(texts), with(texts).apart(1, 2), -1);
            due("apart(2,1) of " + joined(texts), with(texts).apart(2, 1), NONE);
        }
        for (String[] texts : arguments) {
            JoinedTheories narrow = with(texts[0], "b<c+1", "c<b");
            due("apart(1,2) of " + texts[0] + " b<c+1 c<b", narrow.apart(1, 2), 1);
            due("apart(2,1) of " + texts[0] + " b<c+1 c<b", narrow.apart(2, 1), -1);
            narrow = with(texts[0], "b<c+1", "c<b+1");
            due("apart(1,2) of " + texts[0] + " b<c+1 c<b+1", narrow.apart(1, 2), 1);
            due("apart(2,1) of " + texts[0] + " b<c+1 c<b+1", narrow.apart(2, 1), 1);
        }
        // Two paths side by side: d is e plus 5 only where a and b are equal, which the last literals rule out.
        String[][] ruledOut = {
            {"a#b"}, {"f(a)#f(b)"}, {"g(a,a)#g(b,b)"}, {"g(a,c)#g(b,c)"}, {"g(c,a)#g(c,b)"},
            {"d<f(a)+1", "f(a)<e+4", "d<f(b)+2", "f(b)<e+3"}, {"d<g(a,a)+1", "g(a,a)<e+4", "d<g(b,b)+2", "g(b,b)<e+3"}};
        for (String[] texts : ruledOut) {
            JoinedTheories paths = with("d<a+2", "a<e+3", "d<b+2", "b<e+3");
            due("apart(3,4) of two paths", paths.apart(3, 4), 5);
            for (String text : texts) {
                enter(paths, text);
            }
            due("apart(3,4) of two paths with " + joined(texts), paths.apart(3, 4), 4);
            due("far(3,4) of two paths with " + joined(texts), paths.far(3, 4), 5);
        }
        // c is a or b, so that f(c) is f(a) or f(b): the greater limit counts.
        JoinedTheories either = with("a<c", "c<b", "b<a+1", "f(a)<e+3", "f(b)<e+7", "d<f(c)");
        due("apart(3,4) of two cases", either.apart(3, 4), 7);
        due("far(3,4) of two cases", either.far(3, 4), NONE);
        JoinedTheories other = with("a<c", "c<b", "b<a+1", "f(a)<e+7", "f(b)<e-3", "d<f(c)");
        due("apart(3,4) of two cases, the first being greater", other.apart(3, 4), 7);
        JoinedTheories byOne = with("a<c", "c<b", "b<a+1", "f(a)<e+3", "f(b)<e+4", "d<f(c)");
        due("apart(3,4) of two cases, the second being greater by 1", byOne.apart(3, 4), 4);
        byOne = with("a<c", "c<b", "b<a+1", "f(a)<e+4", "f(b)<e+3", "d<f(c)");
        due("apart(3,4) of two cases, the first being greater by 1", byOne.apart(3, 4), 4);
    }

    private static void noLimit() {
        sentence("NONE if it has no upper limit");
        JoinedTheories x = with("a<b", "c#a", "f(c)=d");
        due("apart(0,1)", x.apart(0, 1), 0);
        due("apart(1,0)", x.apart(1, 0), NONE);
        due("apart(2,0)", x.apart(2, 0), NONE);
        due("apart(0,2)", x.apart(0, 2), NONE);
        due("apart(5,4)", x.apart(5, 4), NONE);
        due("apart(0,1) of a new object", new JoinedTheories().apart(0, 1), NONE);
        // There is a limit where c is a, but not where it is something else.
        JoinedTheories one = with("f(a)<b+3", "d<f(c)");
        due("apart(3,1) without a limit in one case", one.apart(3, 1), NONE);
        enter(one, "a<c");
        enter(one, "c<a");
        due("apart(3,1) with a limit in the only case", one.apart(3, 1), 3);
    }

    private static void unknown() {
        sentence("UNKNOWN if one of the terms does not exist");
        JoinedTheories x = with("f(a)<b-4");
        for (int t : new int[] {LEAST, -1, 6, 9, 10, MOST}) {
            dueError(x, x.digest(), "apart(0," + t + ")", x.apart(0, t), UNKNOWN);
            dueError(x, x.digest(), "apart(" + t + ",0)", x.apart(t, 0), UNKNOWN);
            due("apart(" + t + "," + t + ")", x.apart(t, t), UNKNOWN);
        }
        sentence("`s`: a term - `t`: a term");
        due("apart(5,1), the last term", x.apart(5, 1), -4);
        x.drop(0);
        due("apart(5,1) after drop()", x.apart(5, 1), UNKNOWN);
        due("apart(9,0) of ten terms", with("f(f(f(f(f(a)))))<a-9").apart(9, 0), -9);
    }

    private static void noSolution() {
        sentence("STATE if there is no solution");
        String[][] contradictions = {{"a#a"}, {"a<a-1"}, {"a=b", "f(a)#f(b)"}, {"a<b", "b<a+1", "c#a", "c#b", "a<c", "c<b"}};
        for (String[] texts : contradictions) {
            JoinedTheories x = with(texts);
            for (int t = 0; t < 5; t++) {
                dueError(x, x.digest(), "apart(0," + t + ") of " + joined(texts), x.apart(0, t), STATE);
            }
            sentence("Each method names its errors in the order in which they are checked, and the first one that applies is returned.");
            due("apart(0,9) of " + joined(texts), x.apart(0, 9), UNKNOWN);
            due("apart(-1,0) of " + joined(texts), x.apart(-1, 0), UNKNOWN);
            sentence("NONE means \"there is none\" and is returned only if no error applies.");
            due("apart(3,4) without limit and solution", x.apart(3, 4), STATE);
            sentence("STATE if there is no solution");
        }
    }

    private static void great() {
        sentence("Returns this difference");
        JoinedTheories x = enlarged("a<b+2");
        enter(x, "b<c+1");
        enter(x, "b<d-1");
        due("apart(0,1)", x.apart(0, 1), 2000000000);
        due("apart(0,3)", x.apart(0, 3), 1999999999);
        sentence("GREAT if it is above 2000000000 or below -2000000000");
        dueError(x, x.digest(), "apart(0,2), 2000000001", x.apart(0, 2), GREAT);
        x.scale(-1);
        due("apart(0,1)", x.apart(0, 1), -2000000000);
        due("apart(0,3)", x.apart(0, 3), -1999999999);
        dueError(x, x.digest(), "apart(0,2), -2000000001", x.apart(0, 2), GREAT);

        JoinedTheories below = enlarged("a<b-2");
        enter(below, "c<a");
        due("apart(2,1)", below.apart(2, 1), -2000000000);
        enter(below, "c#a");
        due("apart(2,1), one less", below.apart(2, 1), GREAT);
        due("far(2,1), as before", below.far(2, 1), -2000000000);
        JoinedTheories above = enlarged("a<b+2");
        enter(above, "c<a+1");
        due("apart(2,1), 2000000001", above.apart(2, 1), GREAT);
        enter(above, "d<a+1");
        enter(above, "a<d-1");
        enter(above, "c#d");
        due("apart(2,1), one less", above.apart(2, 1), 2000000000);
        due("far(2,1), as before", above.far(2, 1), GREAT);

        JoinedTheories many = enlarged("a<b+2", "b<c+2", "c<d+2", "d<e+2", "e<f(a)+2", "f(a)<f(b)+2", "f(b)<f(c)+2", "f(c)<f(d)+2", "f(d)<f(e)+2");
        due("apart(0,9), 18000000000", many.apart(0, 9), GREAT);
        due("apart(0,2), 4000000000", many.apart(0, 2), GREAT);
        due("apart(9,0), without limit", many.apart(9, 0), NONE);
        many.scale(-1);
        due("apart(0,9), -18000000000", many.apart(0, 9), GREAT);
        enter(many, "b#b");
        sentence("Each method names its errors in the order in which they are checked, and the first one that applies is returned.");
        due("apart(0,9) without solution", many.apart(0, 9), STATE);
    }
}
