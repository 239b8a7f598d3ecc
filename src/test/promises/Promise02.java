/** Promise 2: letter. */
final class Promise02 extends Checks {
    static void check() {
        promise(2);
        sentence("Appends a character to the page.");
        JoinedTheories x = new JoinedTheories();
        write(x, "a=b");
        due("add() of three letters", x.add(), 0);
        due("literal(0,2)", x.literal(0, 2), 1);

        sentence("`code`: its code, 32 to 126");
        for (int code = 32; code <= 126; code++) {
            JoinedTheories one = new JoinedTheories();
            long before = one.digest();
            due("letter(" + code + ")", one.letter(code), 1);
            // The character comes before the six counts, of which only that of characters has changed.
            due("digest() after letter(" + code + ")", one.digest(), digestWith(before, code));
        }

        sentence("Returns how many characters the page has then");
        JoinedTheories page = new JoinedTheories();
        for (int n = 1; n <= 40; n++) {
            due("letter() as number " + n, page.letter(32 + n), n);
            due("count(2)", page.count(2), n);
        }
        outside();
        full();
    }

    /** The digest of a new object after its first letter; the six counts of a new object are 0, 5, 0, 0, 0, 0. */
    private static long digestWith(long digestOfNew, int code) {
        long tail = 0;
        for (int v : new int[] {0, 5, 0, 0, 0, 0}) {
            tail = 31 * tail + v;
        }
        // What stands before the counts, times 31 to the sixth, is the rest; with a letter it is multiplied once more.
        long head = digestOfNew - tail;
        long power = 31L * 31 * 31 * 31 * 31 * 31;
        long newTail = 0;
        for (int v : new int[] {0, 5, 1, 0, 0, 0}) {
            newTail = 31 * newTail + v;
        }
        return head * 31 + code * power + newTail;
    }

    private static void outside() {
        sentence("OUTSIDE if code is out of range");
        JoinedTheories x = new JoinedTheories();
        x.letter('a');
        for (int code : new int[] {LEAST, LEAST + 97, -97, -1, 0, 9, 10, 31, 127, 128, 255, 256 + 97, 65536 + 97, MOST}) {
            dueError(x, x.digest(), "letter(" + code + ")", x.letter(code), OUTSIDE);
        }
        due("letter(32), the least", x.letter(32), 2);
        due("letter(126), the greatest", x.letter(126), 3);
    }

    private static void full() {
        sentence("FULL if it has 40");
        JoinedTheories x = new JoinedTheories();
        for (int n = 1; n <= 39; n++) {
            x.letter('f');
        }
        due("letter() as number 40", x.letter('f'), 40);
        dueError(x, x.digest(), "letter() on a full page", x.letter('f'), FULL);
        dueError(x, x.digest(), "letter() on a full page again", x.letter(' '), FULL);
        due("count(2) of a full page", x.count(2), 40);

        sentence("Each method names its errors in the order in which they are checked, and the first one that applies is returned.");
        for (int code : new int[] {LEAST, 31, 127, MOST}) {
            dueError(x, x.digest(), "letter(" + code + ") on a full page", x.letter(code), OUTSIDE);
        }
        due("blank()", x.blank(), 40);
        due("letter() after blank()", x.letter('a'), 1);
    }
}
