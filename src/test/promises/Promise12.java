/** Promise 12: holds. */
final class Promise12 extends Checks {
    static void check() {
        promise(12);
        literals();
        functions();
        cases();
        greatNumbers();
    }

    private static void holdsIs(int want, String... texts) {
        JoinedTheories x = with(texts);
        long before = x.digest();
        due("holds() of " + joined(texts), x.holds(), want);
        due("digest() after holds() of " + joined(texts), x.digest(), before);
    }

    private static void literals() {
        sentence("Tells whether there is a solution.");
        sentence("Returns 1 if there is, 0 if not.");
        holdsIs(1);
        holdsIs(1, "a=a", "a<a");
        holdsIs(0, "a#a");
        sentence("the two terms of each equality have equal values, and those of each inequality have different values;");
        holdsIs(0, "a=b", "a#b");
        holdsIs(0, "a=b", "b=c", "d=e", "c#a");
        holdsIs(1, "a=b", "c=d", "a#c", "b#e", "d#e");
        holdsIs(0, "a=b", "a<b-1");
        holdsIs(1, "a#b", "b#c", "c#d", "d#e", "a#c", "a#d", "a#e", "b#d", "b#e", "c#e");
        sentence("for each bound with number b, the value of the left term is at most the value of the right term plus b;");
        holdsIs(0, "a<a-1");
        holdsIs(1, "a<a+1");
        holdsIs(1, "a<b-1", "b<a+1");
        holdsIs(0, "a<b-2", "b<a+1");
        holdsIs(0, "a<b", "b<a", "a#b");
        holdsIs(1, "a<b", "b<a+1", "a#b");
        holdsIs(1, "a<b-999999", "b<a+999999");
        holdsIs(0, "a<b-999999", "b<a+999998");
    }

    private static void functions() {
        sentence("two terms f(s) and f(t) have equal values if s and t have; and two terms g(s,t) and g(u,v) have equal values if s and u have and t and v have.");
        holdsIs(0, "a=b", "f(a)#f(b)");
        holdsIs(0, "a<b", "b<a", "f(a)<f(b)-1");
        holdsIs(1, "f(a)=f(b)", "a#b");
        holdsIs(0, "f(f(f(a)))=a", "f(f(f(f(f(a)))))=a", "f(a)#a");
        holdsIs(1, "f(a)=b", "f(b)=a", "a#b");
        holdsIs(1, "a=b", "f(a)<f(b)", "c#f(a)");
        holdsIs(1, "a=b", "f(a)#c", "f(b)<f(a)");
        holdsIs(1, "f(a)#g(a,a)");
        holdsIs(0, "g(a,b)#g(b,a)", "a=b");
        holdsIs(1, "g(a,b)#g(b,a)", "a<b", "b<a+1");
        holdsIs(0, "g(a,c)#g(b,d)", "a=b", "c=d");
        holdsIs(1, "g(a,c)#g(b,d)", "a=b");
        holdsIs(1, "g(a,c)#g(b,d)", "c=d");
        holdsIs(0, "g(c,a)#g(c,b)", "a=b");
        holdsIs(0, "g(a,c)#g(b,c)", "a=b");
    }

    private static void cases() {
        sentence("A solution assigns an integer to each term, such that:");
        holdsIs(0, "a<b", "b<a+1", "c#a", "c#b", "a<c", "c<b");
        holdsIs(1, "a<b", "b<a+2", "c#a", "c#b", "a<c", "c<b");
        holdsIs(0, "a<b", "b<a+1", "a<c", "c<a+1", "a#b", "a#c", "b#c");
        holdsIs(1, "a<b", "b<a+1", "a<c", "c<a+1", "a#b", "a#c");
        holdsIs(0, "a<b", "b<a+1", "f(a)=c", "f(b)=c", "a<d", "d<b", "f(d)#c");
        holdsIs(1, "a<b", "b<a+2", "f(a)=c", "f(b)=c", "a<d", "d<b", "f(d)#c");
        holdsIs(0, "a<b", "b<a+1", "a<d", "d<b", "g(a,e)=c", "g(b,e)=c", "g(d,e)#c");
        holdsIs(1, "a<b", "b<a+1", "a<d", "d<b", "g(a,e)=c", "g(b,e)=c", "g(d,a)#c");
        holdsIs(0, "a<b-1", "b<c-1", "c<a+3", "d#a", "d#b", "d#c", "a<d", "d<c", "f(a)#f(c)", "c<a+2");
        holdsIs(1, "a<b-1", "b<c-1", "c<a+3", "d#a", "d#b", "d#c", "a<d", "d<c", "f(a)#f(c)");
    }

    private static void greatNumbers() {
        sentence("Tells whether there is a solution.");
        due("holds() with a sum of 3000000000", enlarged("a<b+2", "b<c+2", "c<a-1").holds(), 1);
        due("holds() with a sum of -3000000000", enlarged("a<b-2", "b<c-2", "c<a+1").holds(), 0);
        due("holds() with a sum of 0", enlarged("a<b+2", "b<c-1", "c<a-1").holds(), 1);
        JoinedTheories one = enlarged("a<b+2", "b<c-1", "c<d-1");
        due("add() of d<a-1", enter(one, "d<a-1"), 3);
        due("holds() with a sum of -1", one.holds(), 0);
    }
}
