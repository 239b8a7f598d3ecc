/** Promise 15: why. */
final class Promise15 extends Checks {
    static void check() {
        promise(15);
        order();
        masks();
        termsOfAll();
        solvable();
    }

    private static void whyIs(int want, String... texts) {
        JoinedTheories x = with(texts);
        long before = x.digest();
        due("why() of " + joined(texts), x.why(), want);
        due("why() of " + joined(texts) + " again", x.why(), want);
        due("digest() after why() of " + joined(texts), x.digest(), before);
    }

    private static void order() {
        sentence("Finds literals that contradict each other: from the literal with the greatest number down to literal 0, each one is left out for good if there is no solution without it (and without those that were left out before) either.");
        whyIs(3, "a=b", "a#b", "c=d", "c#d");
        whyIs(3, "a=b", "a#b", "b#a");
        whyIs(3, "a<b-1", "b<a", "a=b", "a#b");
        whyIs(2, "a=b", "c#c", "d<d-1", "e#e");
        whyIs(10, "a=b", "c=d", "e<e+1", "c#d", "a#a");
        whyIs(6, "d=e", "a=b", "f(f(a))#f(f(b))", "f(a)=c");
        whyIs(122, "a<b", "b<a+1", "d=e", "c#a", "c#b", "a<c", "c<b");
        whyIs(31, "f(a)=b", "f(c)=d", "a<c", "c<a", "b#d", "a=c", "b<d-1");
    }

    private static void masks() {
        sentence("Returns the literals that remain, as a bit mask in which bit k stands for literal k");
        whyIs(1, "a#a");
        whyIs(1, "a<a-1");
        whyIs(2, "a=a", "a#a");
        for (int k = 0; k < 10; k++) {
            String[] texts = {"a=b", "b<c", "c#d", "d<e-1", "e=e", "f(a)=f(b)", "a<b+1", "d#a", "b#d", "f(a)<e"};
            texts[k] = "c#c";
            whyIs(1 << k, texts);
        }
        whyIs(1023, "a<b", "b<c", "c<d", "d<e", "e<f(a)", "f(a)<f(b)", "f(b)<f(c)", "f(c)<f(d)", "f(d)<f(e)", "f(e)<a-1");
        whyIs(513, "a<b-1", "c=c", "c=c", "c=c", "c=c", "c=c", "c=c", "c=c", "c=c", "b<a");
    }

    private static void termsOfAll() {
        sentence("(The terms are those of all literals.)");
        whyIs(3, "a=b", "f(a)#f(b)", "f(f(a))=c", "g(a,f(b))#d");
        JoinedTheories x = with("g(a,f(b))#d", "f(f(a))=c", "a=b", "f(a)#f(b)");
        due("why()", x.why(), 12);
        due("count(1) after why()", x.count(1), 9);
        due("literal(3,1) after why()", x.literal(3, 1), 7);
    }

    private static void solvable() {
        sentence("STATE if there is a solution");
        for (String[] texts : new String[][] {{}, {"a=b", "c#d"}, {"a<b-1", "b<a+1"}, {"a<b", "b<a+1", "c#a", "a<c", "c<b"}}) {
            JoinedTheories x = with(texts);
            dueError(x, x.digest(), "why() of " + joined(texts), x.why(), STATE);
        }
        JoinedTheories x = with("a=b", "a#b");
        due("why()", x.why(), 3);
        x.drop(1);
        due("why() after drop()", x.why(), STATE);
        sentence("STATE: the call is not possible in the present state.");
        due("add() of b#a", enter(x, "b#a"), 1);
        due("why() after add()", x.why(), 3);
    }
}
