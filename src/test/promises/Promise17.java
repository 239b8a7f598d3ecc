/** Promise 17: count. */
final class Promise17 extends Checks {
    static void check() {
        promise(17);
        sentence("Returns a number.");
        sentence("Returns it");
        JoinedTheories x = with("f(a)=b", "g(a,b)#c", "a<b");
        x.drop(1);
        enter(x, "a=b");
        x.either(0);
        write(x, "a=");
        int[] want = {3, 6, 2, 4, 1, 1};
        for (int what = 0; what < 6; what++) {
            due("count(" + what + ")", x.count(what), want[what]);
        }
        now();
        ever();
        errors(x);
    }

    private static void now() {
        sentence("`what`: 0 literals");
        JoinedTheories x = new JoinedTheories();
        for (int n = 0; n <= 11; n++) {
            due("count(0)", x.count(0), Math.min(n, 10));
            enter(x, "a=b");
        }
        x.drop(10);
        due("count(0) after a refused drop()", x.count(0), 10);
        x.drop(9);
        due("count(0) after drop()", x.count(0), 9);

        sentence("1 terms (the five names included)");
        JoinedTheories terms = new JoinedTheories();
        String[] texts = {"a=b", "f(a)=b", "f(f(a))=b", "f(a)=f(f(a))", "g(f(b),f(a))#e"};
        int[] want = {5, 6, 7, 7, 9};
        for (int k = 0; k < texts.length; k++) {
            enter(terms, texts[k]);
            due("count(1) after " + texts[k], terms.count(1), want[k]);
        }
        enter(terms, "f(c)=f(d)");
        due("count(1) after a refused add()", terms.count(1), 9);
        enter(terms, "f(c)=d");
        due("count(1), the most", terms.count(1), 10);

        sentence("2 characters of the page");
        for (int n = 1; n <= 41; n++) {
            terms.letter('=');
            due("count(2)", terms.count(2), Math.min(n, 40));
        }
        terms.letter(31);
        due("count(2) after a refused letter()", terms.count(2), 40);
        terms.add();
        due("count(2) after a refused add()", terms.count(2), 40);
        terms.blank();
        due("count(2) after blank()", terms.count(2), 0);
    }

    private static void ever() {
        JoinedTheories x = new JoinedTheories();
        for (int n = 1; n <= 15; n++) {
            sentence("3 literals that were ever added");
            enter(x, "f(a)<b+" + n);
            due("count(3) after add()", x.count(3), n);
            x.add();
            due("count(3) after a refused add()", x.count(3), n);
            sentence("4 literals that were ever removed");
            due("count(4) before drop()", x.count(4), n - 1);
            x.drop(0);
            due("count(4) after drop()", x.count(4), n);
            x.drop(0);
            due("count(4) after a refused drop()", x.count(4), n);
        }
        due("count(0)", x.count(0), 0);

        sentence("5 calls of either() that counted");
        JoinedTheories y = new JoinedTheories();
        for (int n = 1; n <= 14; n++) {
            y.either(n % 2);
            due("count(5)", y.count(5), Math.min(n, 12));
            y.either(2);
            due("count(5) after a refused either()", y.count(5), Math.min(n, 12));
        }
    }

    private static void errors(JoinedTheories x) {
        sentence("OUTSIDE if what is not 0 to 5");
        for (int what : new int[] {LEAST, -1, 6, 7, MOST}) {
            dueError(x, x.digest(), "count(" + what + ")", x.count(what), OUTSIDE);
            due("count(" + what + ") of a new object", new JoinedTheories().count(what), OUTSIDE);
        }
        sentence("A call that returns an error changes nothing.");
        int[] want = {3, 6, 2, 4, 1, 1};
        x.letter(31);
        x.add();
        x.drop(3);
        x.scale(1001);
        x.either(2);
        x.why();
        for (int what = 0; what < 6; what++) {
            due("count(" + what + ") after errors", x.count(what), want[what]);
        }
    }
}
