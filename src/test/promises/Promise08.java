/** Promise 8: literal. */
final class Promise08 extends Checks {
    static void check() {
        promise(8);
        sentence("Returns a property of a literal.");
        sentence("Returns it");
        JoinedTheories x = with("a=f(b)", "g(a,f(b))#c", "d<e-17", "d<e", "e<a+999999");
        int[][] want = {{0, 0, 5, 0}, {1, 6, 2, 0}, {2, 3, 4, -17}, {2, 3, 4, 0}, {2, 4, 0, 999999}};
        String[] properties = {"`what`: 0 its kind (0 equality, 1 inequality, 2 bound)", "1 its left term", "2 its right term", "3 its number"};
        for (int what = 0; what < 4; what++) {
            sentence(properties[what]);
            for (int k = 0; k < 5; k++) {
                due("literal(" + k + "," + what + ")", x.literal(k, what), want[k][what]);
            }
        }
        sentence("`literal`: a literal");
        due("literal(0,1), the first one", x.literal(0, 1), 0);
        due("literal(4,1), the last one", x.literal(4, 1), 4);

        sentence("3 its number (0 if it is no bound)");
        x.scale(-1000);
        due("literal(0,3) after scale()", x.literal(0, 3), 0);
        due("literal(1,3) after scale()", x.literal(1, 3), 0);
        due("literal(2,3) after scale()", x.literal(2, 3), 17000);

        sentence("UNKNOWN if there is no such literal");
        for (int k : new int[] {LEAST, -1, 5, 9, 10, MOST}) {
            for (int what = 0; what < 4; what++) {
                dueError(x, x.digest(), "literal(" + k + "," + what + ")", x.literal(k, what), UNKNOWN);
            }
        }
        JoinedTheories full = with("a=b", "a=b", "a=b", "a=b", "a=b", "a=b", "a=b", "a=b", "a=b", "d#e");
        due("literal(9,1) of ten", full.literal(9, 1), 3);
        due("literal(10,1) of ten", full.literal(10, 1), UNKNOWN);
        due("literal(0,0) of none", new JoinedTheories().literal(0, 0), UNKNOWN);

        sentence("OUTSIDE if what is not 0 to 3");
        for (int what : new int[] {LEAST, -1, 4, 5, MOST}) {
            for (int k = 0; k < 5; k++) {
                dueError(x, x.digest(), "literal(" + k + "," + what + ")", x.literal(k, what), OUTSIDE);
            }
        }
        sentence("Each method names its errors in the order in which they are checked, and the first one that applies is returned.");
        for (int what : new int[] {LEAST, -1, 4, MOST}) {
            for (int k : new int[] {LEAST, -1, 5, MOST}) {
                due("literal(" + k + "," + what + ")", x.literal(k, what), UNKNOWN);
            }
        }
    }
}
