/** Promise 10: exchange. */
final class Promise10 extends Checks {
    static void check() {
        promise(10);
        results();
        equalities();
        congruence();
        distances();
        negativePaths();
        joining();
        endings();
        errors();
    }

    private static void exchangeIs(int conflict, int rounds, int classes, String... texts) {
        JoinedTheories x = with(texts);
        long before = x.digest();
        due("exchange(0) of " + joined(texts), x.exchange(0), conflict);
        due("exchange(1) of " + joined(texts), x.exchange(1), rounds);
        due("exchange(2) of " + joined(texts), x.exchange(2), classes);
        due("digest() after exchange() of " + joined(texts), x.digest(), before);
    }

    private static void results() {
        sentence("Returns a result of the exchange.");
        sentence("Returns it");
        exchangeIs(0, 1, 5);
        exchangeIs(0, 1, 10, "f(a)#f(b)", "f(c)#f(d)", "f(e)#a");

        sentence("`what`: 0 whether there is a conflict (1 or 0)");
        exchangeIs(1, 1, 4, "a=b", "b#a");
        exchangeIs(0, 1, 4, "a=b", "b#c");

        sentence("1 the number of rounds (that with a conflict included)");
        exchangeIs(1, 1, 5, "a<a-1");
        exchangeIs(1, 2, 5, "a<b", "b<a", "f(a)<f(b)-1");
        exchangeIs(0, 5, 1, "f(e)=e", "a<e", "e<a", "f(a)<b", "b<e", "f(b)<c", "c<e", "f(c)<d", "d<e", "f(d)<a");
        exchangeIs(1, 5, 1, "f(e)=e", "a<e", "e<a", "f(a)<b", "b<e", "f(b)<c", "c<e", "f(c)<d", "d<e", "f(d)<a-1");
        exchangeIs(1, 5, 1, "f(e)=e", "a<e", "e<a", "f(a)<b", "b<e", "f(b)<c", "c<e", "f(c)<d", "d<e", "f(d)#a");

        sentence("2 into how many classes the relation \"same\" divides the terms after it");
        exchangeIs(0, 1, 1, "a=b", "b=c", "c=d", "d=e");
        exchangeIs(0, 1, 4, "a=f(a)", "f(f(a))#b", "c=d");
    }

    private static void equalities() {
        sentence("The exchange computes a relation \"same\" between terms, which is always reflexive, symmetric and transitive.");
        exchangeIs(1, 1, 5, "a#a");
        exchangeIs(1, 1, 4, "b=a", "a#b");
        exchangeIs(1, 1, 3, "a=b", "b=c", "a#c");
        exchangeIs(1, 1, 2, "c=d", "a=b", "d=b", "a#c");
        exchangeIs(1, 2, 3, "a=b", "b<c", "c<b", "c#a");

        sentence("At first it is the smallest such relation in which the two terms of each equality are the same.");
        exchangeIs(0, 1, 5, "a=a");
        exchangeIs(0, 1, 3, "a=b", "c=d", "a#c");
        exchangeIs(0, 1, 6, "f(a)=f(b)", "a#b");
        exchangeIs(0, 1, 5, "a#b", "a<c-1");
    }

    private static void congruence() {
        sentence("Then there are rounds. In each round:");
        exchangeIs(1, 2, 5, "a<b", "b<a", "f(a)#f(b)");
        exchangeIs(1, 3, 3, "a<b", "b<a", "f(a)=c", "f(b)=d", "d<e", "e<c", "f(d)#f(e)");

        sentence("1. The relation is extended by congruence until nothing changes: two terms with f become the same if their arguments are the same, and two terms with g if both their first and both their second arguments are the same.");
        exchangeIs(1, 1, 5, "a=b", "f(a)#f(b)");
        exchangeIs(1, 1, 6, "a=b", "f(f(a))#f(f(b))");
        exchangeIs(1, 1, 5, "f(a)=a", "f(f(f(a)))#a");
        exchangeIs(1, 1, 4, "f(c)#f(d)", "c=f(a)", "d=f(b)", "a=b");
        // The terms are numbered so that each pass through them finds only one more pair of the same ones.
        exchangeIs(1, 1, 1, "f(d)#a", "d=f(c)", "c=f(b)", "b=f(a)", "f(e)=e", "a=e");
        exchangeIs(0, 1, 6, "a=b", "g(a,c)#g(b,d)");
        exchangeIs(0, 1, 6, "c=d", "g(a,c)#g(b,d)");
        exchangeIs(1, 1, 4, "a=b", "c=d", "g(a,c)#g(b,d)");
        exchangeIs(1, 1, 5, "a=b", "g(a,c)#g(b,c)");
        exchangeIs(1, 1, 5, "a=b", "g(c,a)#g(c,b)");
        exchangeIs(0, 1, 7, "g(a,b)#g(b,a)");
        exchangeIs(1, 1, 5, "g(a,b)#g(b,a)", "a=b");
        exchangeIs(0, 1, 7, "f(a)#g(a,a)");
    }

    private static void distances() {
        sentence("2. The distance from a term s to a term t is determined: the smallest sum of the weights of a path of steps from s to t.");
        exchangeIs(0, 2, 4, "a<b+2", "b<c-1", "c<d-1", "d<a");
        exchangeIs(0, 2, 4, "a<b+5", "a<b", "b<a+5", "b<a", "a<b+1");
        exchangeIs(0, 1, 5, "a<b+5", "b<a");

        sentence("There is a step from the left to the right term of each bound, with its number as the weight, and steps with weight 0 in both directions between two terms that are the same (so the distance from a term to itself is at most 0).");
        exchangeIs(0, 1, 5, "a<b");
        exchangeIs(0, 1, 5, "a<a", "b<b+3");
        exchangeIs(0, 2, 3, "a=b", "a<c", "c<b");
        exchangeIs(0, 2, 2, "a=b", "c=d", "a<c", "d<b");
        exchangeIs(0, 1, 5, "a<b", "b<a+1", "a#b");
        exchangeIs(1, 2, 4, "f(a)=c", "f(b)<c-1", "a<b", "b<a");

        sentence("There is no distance if there is no such path.");
        exchangeIs(0, 1, 5, "a<b", "c<b", "c<d");
        // Four times 2 to the 30th is no distance 0, though an int would wrap around to it.
        JoinedTheories wrapping = with("a<b+524288", "b<c+524288", "c<d+524288", "d<e+524288", "e<a");
        wrapping.scale(512);
        wrapping.scale(4);
        due("exchange(1) of 2 to the 30th", wrapping.exchange(1), 1);
        due("exchange(2) of 2 to the 30th", wrapping.exchange(2), 5);
    }

    private static void negativePaths() {
        sentence("3. If there is a path from a term to itself whose sum is negative, there is a conflict, and the exchange ends.");
        exchangeIs(1, 1, 5, "a<b-1", "b<a");
        exchangeIs(0, 1, 5, "a<b-1", "b<a+1");
        exchangeIs(1, 1, 5, "a<b-5", "b<c+3", "c<a+1");
        exchangeIs(0, 1, 5, "a<b-5", "b<c+3", "c<a+2");
        exchangeIs(1, 1, 4, "a=b", "a<b-1");
        exchangeIs(1, 1, 5, "c<c-1", "a<b", "b<a");
        exchangeIs(1, 1, 5, "a<b", "b<a", "c<c-1");
        exchangeIs(1, 1, 10, "a<b", "b<c", "c<d", "d<e", "e<f(a)", "f(a)<f(b)", "f(b)<f(c)", "f(c)<f(d)", "f(d)<f(e)", "f(e)<a-1");
        exchangeIs(0, 2, 1, "a<b", "b<c", "c<d", "d<e", "e<f(a)", "f(a)<f(b)", "f(b)<f(c)", "f(c)<f(d)", "f(d)<f(e)", "f(e)<a");
        due("exchange(0) with a sum of 3000000000", enlarged("a<b+2", "b<c+2", "c<a-1").exchange(0), 0);
        due("exchange(0) with a sum of -3000000000", enlarged("a<b-2", "b<c-2", "c<a+1").exchange(0), 1);
    }

    private static void joining() {
        sentence("4. Otherwise all pairs of terms that are not the same and have the distance 0 in both directions become the same, and another round begins.");
        exchangeIs(0, 2, 4, "a<b", "b<a");
        exchangeIs(0, 2, 3, "a<b", "b<c", "c<a");
        exchangeIs(0, 2, 3, "a<b", "b<a", "c<d", "d<c");
        exchangeIs(0, 1, 4, "a=b", "a<b", "b<a");
        exchangeIs(0, 1, 5, "a<b+1", "b<a-1");
        exchangeIs(0, 1, 5, "a<b", "b<a+1");
        exchangeIs(0, 2, 5, "f(a)<b", "b<f(a)");
    }

    private static void endings() {
        sentence("If there are no such pairs, the exchange ends; there is a conflict then if the two terms of some inequality are the same.");
        exchangeIs(1, 2, 3, "a=b", "a#b", "c<d", "d<c");
        exchangeIs(1, 1, 4, "a#c", "a#b", "a=b", "d#e");
        exchangeIs(1, 2, 4, "a<b", "b<a", "b#a");
        JoinedTheories x = with("a<b", "b<a+1", "c#a", "c#b", "a<c", "c<b");
        due("exchange(0) where only cases contradict each other", x.exchange(0), 0);
        due("holds() there", x.holds(), 0);
        due("exchange(2) there", x.exchange(2), 5);
    }

    private static void errors() {
        sentence("OUTSIDE if what is not 0 to 2");
        for (JoinedTheories x : new JoinedTheories[] {new JoinedTheories(), with("a=b", "a#b"), with("a<b", "b<a", "f(a)=f(b)")}) {
            for (int what : new int[] {LEAST, -1, 3, 4, MOST}) {
                dueError(x, x.digest(), "exchange(" + what + ")", x.exchange(what), OUTSIDE);
            }
        }
    }
}
