/** Promise 18: digest. */
final class Promise18 extends Checks {
    static void check() {
        promise(18);
        written();
        asOtherCallsTell();
        changesNothing();
    }

    private static long digestOf(long... values) {
        long h = 1609;
        for (long v : values) {
            h = 31 * h + v;
        }
        return h;
    }

    private static void written() {
        sentence("Computes a hash of the state. h starts as 1609; for each value v of the following list, in this order, h becomes 31 * h + v (long arithmetic that wraps): for each literal literal() for what from 0 to 3; for each term term() for what from 0 to 5; exchange() for what from 0 to 2; holds(); the codes of the characters of the page; count() for what from 0 to 5.");
        sentence("Returns h.");
        long n = NONE;
        JoinedTheories x = new JoinedTheories();
        due("digest() of a new object", x.digest(), digestOf(
            0, n, n, 1, 0, 0, 0, n, n, 1, 1, 0, 0, n, n, 1, 2, 0, 0, n, n, 1, 3, 0, 0, n, n, 1, 4, 0,
            0, 1, 5, 1, 0, 5, 0, 0, 0, 0));
        enter(x, "b<a-2");
        enter(x, "f(a)#f(b)");
        enter(x, "a=b");
        x.drop(2);
        x.either(0);
        write(x, "a ~");
        due("digest()", x.digest(), digestOf(
            2, 1, 0, -2, 1, 5, 6, 0,
            0, n, n, 1, 0, 1, 0, n, n, 1, 1, 1, 0, n, n, 1, 2, 0, 0, n, n, 1, 3, 0, 0, n, n, 1, 4, 0,
            1, 0, n, 4, 5, 1, 1, 1, n, 4, 6, 1,
            0, 1, 7, 1, 97, 32, 126, 2, 7, 3, 3, 1, 1));
    }

    /** The digest that the document's list gives with what the other methods answer. */
    private static long told(JoinedTheories x, String page) {
        long h = 1609;
        for (int k = 0; k < x.count(0); k++) {
            for (int what = 0; what <= 3; what++) {
                h = 31 * h + x.literal(k, what);
            }
        }
        for (int t = 0; t < x.count(1); t++) {
            for (int what = 0; what <= 5; what++) {
                h = 31 * h + x.term(t, what);
            }
        }
        for (int what = 0; what <= 2; what++) {
            h = 31 * h + x.exchange(what);
        }
        h = 31 * h + x.holds();
        for (int i = 0; i < page.length(); i++) {
            h = 31 * h + page.charAt(i);
        }
        for (int what = 0; what <= 5; what++) {
            h = 31 * h + x.count(what);
        }
        return h;
    }

    private static void asOtherCallsTell() {
        sentence("for each value v of the following list, in this order, h becomes 31 * h + v (long arithmetic that wraps)");
        String[][] states = {
            {"a=b", "a#b"}, {"a<b", "b<a", "f(a)<f(b)-1"}, {"a<b", "b<a+1", "c#a", "c#b", "a<c", "c<b"},
            {"f(f(f(f(f(a)))))=a", "a=b", "b=c", "c=d", "d=e", "a<b", "b<a", "c#f(a)", "d<e+999999", "e<f(a)-999999"}};
        String fullPage = "~ !\"#$%&'()*+,-./0123456789:;<=>?@ABCDEF";
        for (String[] texts : states) {
            JoinedTheories x = with(texts);
            due("digest() of " + joined(texts), x.digest(), told(x, ""));
            write(x, fullPage);
            due("digest() with a full page of " + joined(texts), x.digest(), told(x, fullPage));
        }
    }

    private static void changesNothing() {
        sentence("Computes a hash of the state.");
        JoinedTheories x = with("f(a)<b-1", "b<c");
        JoinedTheories twin = with("f(a)<b-1", "b<c");
        for (int times = 0; times < 20; times++) {
            due("digest() of the same state", x.digest(), twin.digest());
        }
        due("far(5,2) after digest()", x.far(5, 2), -1);
        due("either(0) after digest()", x.either(0), NONE);
        due("count(5)", x.count(5), 1);
    }
}
