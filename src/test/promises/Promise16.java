/** Promise 16: either. */
final class Promise16 extends Checks {
    static void check() {
        promise(16);
        disjunctions();
        neitherAlways();
        smallest();
        none();
        outside();
        noSolution();
        twelveCalls();
    }

    private static void eitherIs(int first, int second, String... texts) {
        JoinedTheories x = with(texts);
        due("either(1) of " + joined(texts), x.either(1), second);
        due("either(0) of " + joined(texts), x.either(0), first);
        due("either(1) of " + joined(texts) + " again", x.either(1), second);
    }

    private static void disjunctions() {
        sentence("Finds two pairs of names such that in each solution the names of at least one of both pairs have equal values");
        eitherIs(2, 12, "a<b-1", "b<a+1", "a<c", "c<b");
        eitherIs(2, 4, "a<c+1", "c<a", "a<e+1", "e<a", "c#e");
        eitherIs(4, 14, "a<e", "e<b", "b<a+1");
        eitherIs(NONE, NONE, "a<b-2", "b<a+2", "a<c", "c<b");
        // b is a or the term after it, and so is e with d; but not both are the terms after them.
        eitherIs(1, 34, "f(a)<a+1", "a<f(a)-1", "a<b", "b<a+1", "d<e", "e<d+1", "f(d)<d+1", "d<f(d)-1", "g(b,e)#g(f(a),f(d))");

        sentence("In a pair the smaller name is first");
        eitherIs(24, 34, "c<d-1", "d<c+1", "c<e", "e<d");
        eitherIs(2, 4, "e<c-1", "c<e+1", "a<c", "e<a");

        sentence("`what`: 0 for the first pair, 1 for the second one");
        sentence("Returns 10 * (smaller name) + (greater name) of this pair");
        eitherIs(1, 2, "b<c-1", "c<b+1", "b<a", "a<c");
        eitherIs(13, 23, "b<c-1", "c<b+1", "b<d", "d<c");
        eitherIs(3, 4, "d<e-1", "e<d+1", "d<a", "a<e");
        eitherIs(12, 14, "c<e-1", "e<c+1", "c<b", "b<e");
        eitherIs(1, 13, "a<d-1", "d<a+1", "a<b", "b<d");
    }

    private static void neitherAlways() {
        sentence("but for neither pair this is so in all solutions");
        eitherIs(NONE, NONE, "a=b");
        eitherIs(NONE, NONE, "a=b", "c=d");
        eitherIs(NONE, NONE, "a<b", "b<a", "c=e");
        eitherIs(24, 34, "a=b", "c<d-1", "d<c+1", "c<e", "e<d");
        eitherIs(2, 23, "a=b", "a<d-1", "d<a+1", "a<c", "c<d");
        // f(b) is f(a) or f(c), each of which is e; so d is e always.
        eitherIs(1, 12, "a<c-1", "c<a+1", "a<b", "b<c", "f(a)=e", "f(c)=e", "f(b)=d");
    }

    private static void smallest() {
        sentence("pairs are ordered by their first, then by their second name. Of all such two pairs, the first one being smaller, the ones with the smallest first pair are taken, of several those with the smallest second pair.");
        eitherIs(2, 12, "a<b-1", "b<a+1", "a<c", "c<b", "d=c");
        eitherIs(1, 13, "a<d-1", "d<a+1", "a<b", "b<d", "c=b");
        eitherIs(1, 24, "f(a)<a+1", "a<f(a)-1", "a<b", "b<a+1", "d<e", "e<d+1", "f(d)<d+1", "d<f(d)-1", "g(b,e)#g(f(a),f(d))", "c=d");
        // b and c are a or d, both for themselves: the pairs of b come first.
        eitherIs(1, 13, "a<d-1", "d<a+1", "a<c", "c<d", "a<b", "b<d");
        // Of three names with two values for them two are equal: with the third pair no two pairs are enough.
        eitherIs(NONE, NONE, "a<b+1", "b<a+1", "b<c+1", "c<b+1", "a<c+1", "c<a+1");
    }

    private static void none() {
        sentence("NONE if there are no such pairs");
        eitherIs(NONE, NONE);
        eitherIs(NONE, NONE, "a#b", "c<d");
        // c is a, b or d: that takes three pairs.
        eitherIs(NONE, NONE, "a<b-1", "b<d-1", "d<a+2", "a<c", "c<d");
        // The same with terms that are no names.
        eitherIs(NONE, NONE, "f(a)<f(b)-1", "f(b)<f(a)+1", "f(a)<c", "c<f(b)");
    }

    private static void outside() {
        sentence("OUTSIDE if what is not 0 or 1");
        JoinedTheories x = with("a<b-1", "b<a+1", "a<c", "c<b");
        for (int what : new int[] {LEAST, -1, 2, 3, MOST}) {
            dueError(x, x.digest(), "either(" + what + ")", x.either(what), OUTSIDE);
        }
        due("count(5)", x.count(5), 0);
    }

    private static void noSolution() {
        String[][] contradictions = {{"a=b", "b#a"}, {"a<a-1"}, {"a<b", "b<a+1", "c#a", "c#b", "a<c", "c<b"}};
        for (String[] texts : contradictions) {
            sentence("STATE if there is no solution");
            JoinedTheories x = with(texts);
            for (int call = 0; call < 13; call++) {
                dueError(x, x.digest(), "either(" + call % 2 + ") of " + joined(texts), x.either(call % 2), STATE);
            }
            sentence("Each method names its errors in the order in which they are checked, and the first one that applies is returned.");
            due("either(2) of " + joined(texts), x.either(2), OUTSIDE);
            due("either(-1) of " + joined(texts), x.either(-1), OUTSIDE);
            sentence("calls that returned an error do not count");
            due("count(5)", x.count(5), 0);
            x.drop(texts.length - 1);
            due("either(0) after drop()", x.either(0), NONE);
            due("count(5) then", x.count(5), 1);
        }
    }

    private static void twelveCalls() {
        sentence("or if either() was called 12 times already (since the object was created; calls that returned an error do not count)");
        JoinedTheories x = with("a<b-1", "b<a+1", "a<c", "c<b");
        for (int call = 1; call <= 6; call++) {
            due("either() as call " + call, x.either(call % 2), call % 2 == 0 ? 2 : 12);
            due("count(5) after call " + call, x.count(5), call);
            due("either(2)", x.either(2), OUTSIDE);
        }
        due("add() of a=b", enter(x, "a=b"), 4);
        due("either(0) without solution", x.either(0), STATE);
        due("count(5) after errors", x.count(5), 6);
        due("drop(4)", x.drop(4), 4);
        due("drop(3)", x.drop(3), 3);
        for (int call = 7; call <= 12; call++) {
            due("either(), which is NONE, as call " + call, x.either(call % 2), NONE);
            due("count(5) after call " + call, x.count(5), call);
        }
        for (int call = 13; call <= 15; call++) {
            dueError(x, x.digest(), "either() as call " + call, x.either(call % 2), STATE);
        }
        due("count(5)", x.count(5), 12);
        for (int k = 2; k >= 0; k--) {
            x.drop(k);
        }
        sentence("NONE means \"there is none\" and is returned only if no error applies.");
        due("either(0) without literals", x.either(0), STATE);
        sentence("Each method names its errors in the order in which they are checked, and the first one that applies is returned.");
        due("either(2) after twelve calls", x.either(2), OUTSIDE);
        due("either(-1) after twelve calls", x.either(-1), OUTSIDE);
        due("either(0) of another object", new JoinedTheories().either(0), NONE);
    }
}
