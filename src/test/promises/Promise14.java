/** Promise 14: implied. */
final class Promise14 extends Checks {
    static void check() {
        promise(14);
        equal();
        different();
        atMost();
        errors();
    }

    private static void impliedIs(int want, int s, int t, int sort, String... texts) {
        JoinedTheories x = with(texts);
        long before = x.digest();
        due("implied(" + s + "," + t + "," + sort + ") of " + joined(texts), x.implied(s, t, sort), want);
        due("digest() after it", x.digest(), before);
    }

    private static void equal() {
        sentence("Tells whether something is true in all solutions.");
        sentence("0: s and t have equal values");
        sentence("Returns 1 if it is, 0 if not");
        impliedIs(1, 0, 0, 0);
        impliedIs(0, 0, 1, 0);
        impliedIs(1, 0, 1, 0, "a=b");
        impliedIs(1, 1, 0, 0, "a<b", "b<a");
        impliedIs(0, 0, 1, 0, "a<b", "b<a+1");
        impliedIs(1, 5, 6, 0, "f(a)#c", "f(b)#c", "b=a");
        impliedIs(0, 0, 1, 0, "f(a)=f(b)");
        impliedIs(1, 2, 0, 0, "a<b", "b<a+1", "a<c", "c<b", "c#b");
        impliedIs(1, 7, 4, 0, "a<c", "c<b", "b<a+1", "f(a)=e", "f(b)=e", "f(c)#d");
    }

    private static void different() {
        sentence("1: they have different values");
        impliedIs(0, 0, 0, 1);
        impliedIs(0, 0, 1, 1);
        impliedIs(1, 0, 1, 1, "b#a");
        impliedIs(1, 0, 1, 1, "a<b-1");
        impliedIs(1, 1, 0, 1, "a<b-1");
        impliedIs(0, 0, 1, 1, "a<b");
        for (String text : new String[] {"f(a)<f(b)", "f(b)<f(a)", "g(a,c)<g(b,c)", "g(c,b)<g(c,a)", "f(a)<f(b)+1"}) {
            impliedIs(0, 0, 1, 1, text);
            impliedIs(0, 0, 1, 0, text);
        }
        for (String text : new String[] {"f(a)#f(b)", "f(b)<f(a)-1", "g(a,c)#g(b,c)", "g(c,b)<g(c,a)-1"}) {
            impliedIs(1, 0, 1, 1, text);
            impliedIs(1, 1, 0, 1, text);
            impliedIs(0, 0, 1, 2, text);
        }
        impliedIs(1, 3, 2, 1, "a<b", "b<a+1", "a<c", "c<b", "d#a", "d#b");
        impliedIs(0, 0, 1, 1, "g(a,c)#g(b,d)");
        // c and d could be equal only where a and b are.
        impliedIs(0, 2, 3, 1, "c<a", "a<d", "c<b", "b<d");
        impliedIs(1, 2, 3, 1, "c<a", "a<d", "c<b", "b<d", "a#b");
        impliedIs(1, 2, 3, 1, "c<a", "a<d", "c<b", "b<d", "g(a,e)#g(b,e)");
        // As many inequalities and pairs with f as there can be.
        JoinedTheories all = with(
            "f(a)#f(b)", "f(b)#f(c)", "f(c)#f(d)", "f(d)#f(e)", "f(a)#f(c)", "f(a)#f(d)", "f(a)#f(e)", "f(b)#f(d)", "f(b)#f(e)", "f(c)#f(e)");
        for (int s = 0; s < 5; s++) {
            for (int t = 0; t < 5; t++) {
                due("implied(" + s + "," + t + ",0) of all different", all.implied(s, t, 0), s == t ? 1 : 0);
                due("implied(" + s + "," + t + ",1) of all different", all.implied(s, t, 1), s == t ? 0 : 1);
                due("implied(" + s + "," + t + ",2) of all different", all.implied(s, t, 2), s == t ? 1 : 0);
            }
        }
    }

    private static void atMost() {
        sentence("2: the value of s is at most that of t");
        impliedIs(1, 0, 0, 2);
        impliedIs(0, 0, 1, 2);
        impliedIs(1, 0, 1, 2, "a<b");
        impliedIs(0, 1, 0, 2, "a<b");
        impliedIs(0, 0, 1, 2, "a<b+1");
        impliedIs(1, 0, 1, 2, "a<b-1");
        impliedIs(1, 0, 1, 2, "a=b");
        impliedIs(1, 1, 0, 2, "a=b");
        impliedIs(1, 0, 1, 2, "a<b+1", "c<b+1", "b<c-1", "a#c");
        impliedIs(0, 0, 1, 2, "a<b+2", "c<b+1", "b<c-1", "a#c");
        impliedIs(1, 3, 4, 2, "a<c", "c<b", "b<a+1", "f(a)<e", "f(b)<e-3", "d<f(c)");
        impliedIs(0, 3, 4, 2, "a<c", "c<b", "b<a+1", "f(a)<e+1", "f(b)<e-3", "d<f(c)");
    }

    private static void errors() {
        JoinedTheories x = with("f(a)<b");
        sentence("UNKNOWN if one of the terms does not exist");
        for (int t : new int[] {LEAST, -1, 6, 9, 10, MOST}) {
            for (int sort = 0; sort < 3; sort++) {
                due("implied(0," + t + "," + sort + ")", x.implied(0, t, sort), UNKNOWN);
                due("implied(" + t + ",0," + sort + ")", x.implied(t, 0, sort), UNKNOWN);
            }
            dueError(x, x.digest(), "implied(" + t + "," + t + ",0)", x.implied(t, t, 0), UNKNOWN);
        }
        sentence("`s`: a term - `t`: a term - `sort`:");
        due("implied(5,1,2), the last term", x.implied(5, 1, 2), 1);
        sentence("OUTSIDE if sort is not 0 to 2");
        for (int sort : new int[] {LEAST, -1, 3, 4, MOST}) {
            dueError(x, x.digest(), "implied(0,0," + sort + ")", x.implied(0, 0, sort), OUTSIDE);
            dueError(x, x.digest(), "implied(5,1," + sort + ")", x.implied(5, 1, sort), OUTSIDE);
        }
        String[][] contradictions = {{"a#a"}, {"a<a-1"}, {"a<b", "b<a+1", "c#a", "c#b", "a<c", "c<b"}};
        for (String[] texts : contradictions) {
            sentence("STATE if there is no solution");
            JoinedTheories none = with(texts);
            for (int sort = 0; sort < 3; sort++) {
                dueError(none, none.digest(), "implied(0,0," + sort + ") of " + joined(texts), none.implied(0, 0, sort), STATE);
                due("implied(3,4," + sort + ") of " + joined(texts), none.implied(3, 4, sort), STATE);
            }
            sentence("Each method names its errors in the order in which they are checked, and the first one that applies is returned.");
            due("implied(0,9,0) of " + joined(texts), none.implied(0, 9, 0), UNKNOWN);
            due("implied(-1,0,3) of " + joined(texts), none.implied(-1, 0, 3), UNKNOWN);
            due("implied(0,0,3) of " + joined(texts), none.implied(0, 0, 3), OUTSIDE);
            due("implied(0,0,-1) of " + joined(texts), none.implied(0, 0, -1), OUTSIDE);
        }
        due("implied(0,6,3)", x.implied(0, 6, 3), UNKNOWN);
        due("implied(6,0,-1)", x.implied(6, 0, -1), UNKNOWN);
    }
}
