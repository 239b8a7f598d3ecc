/** Promise 3: blank. */
final class Promise03 extends Checks {
    static void check() {
        promise(3);
        sentence("Empties the page.");
        JoinedTheories x = with("a<b-1");
        long before = x.digest();
        write(x, "c=d");
        x.blank();
        due("count(2)", x.count(2), 0);
        due("digest(), as before the letters", x.digest(), before);
        due("add() of nothing", x.add(), STATE);
        due("letter(99) as the first one", x.letter('c'), 1);
        due("fault() of c alone", x.fault(), 1);

        sentence("Returns how many characters it had.");
        JoinedTheories y = new JoinedTheories();
        due("blank() of an empty page", y.blank(), 0);
        for (int size : new int[] {1, 2, 39, 40}) {
            for (int n = 0; n < size; n++) {
                y.letter('~');
            }
            due("blank() of " + size, y.blank(), size);
            due("blank() again", y.blank(), 0);
        }
        for (int n = 0; n < 50; n++) {
            y.letter('~');
        }
        due("blank() after letters that had no room", y.blank(), 40);
        write(y, "a=b");
        y.add();
        due("blank() after add()", y.blank(), 0);
    }
}
