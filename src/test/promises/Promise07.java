/** Promise 7: scale. */
final class Promise07 extends Checks {
    static void check() {
        promise(7);
        multiplying();
        factors();
        counting();
        great();
        resultsAnew();
    }

    private static void multiplying() {
        sentence("Multiplies the numbers of all bounds by a factor.");
        JoinedTheories x = with("a<b+3", "b<c", "a=e", "c<d-5", "b#e", "f(a)<b+1");
        x.scale(-7);
        int[] want = {-21, 0, 0, 35, 0, -7};
        for (int k = 0; k < want.length; k++) {
            due("literal(" + k + ",3)", x.literal(k, 3), want[k]);
        }
        x.scale(2);
        due("literal(0,3) after another factor", x.literal(0, 3), -42);
        due("count(0)", x.count(0), 6);
        due("count(1)", x.count(1), 6);
        write(x, "a");
        x.scale(2);
        due("count(2), the page being left alone", x.count(2), 1);
    }

    private static void factors() {
        sentence("`times`: the factor, -1000 to 1000");
        for (int times : new int[] {-1000, -999, -1, 0, 2, 999, 1000}) {
            JoinedTheories x = with("a<b+3");
            due("scale(" + times + ")", x.scale(times), 1);
            due("literal(0,3) after it", x.literal(0, 3), 3 * times);
        }
        sentence("OUTSIDE if times is out of range");
        sentence("OUTSIDE: another argument is out of its range.");
        JoinedTheories x = with("a<b+3");
        JoinedTheories none = new JoinedTheories();
        for (int times : new int[] {LEAST, LEAST + 1, -1001, 1001, 65536, MOST}) {
            dueError(x, x.digest(), "scale(" + times + ")", x.scale(times), OUTSIDE);
            dueError(none, none.digest(), "scale(" + times + ") of none", none.scale(times), OUTSIDE);
        }
    }

    private static void counting() {
        sentence("Returns how many of these numbers are different from before");
        due("scale(5) of no literals", new JoinedTheories().scale(5), 0);
        due("scale(0) of no literals", new JoinedTheories().scale(0), 0);
        due("scale(5) of no bounds", with("a=b", "a#c").scale(5), 0);
        due("scale(5) of zeros", with("a<b", "b<c").scale(5), 0);
        JoinedTheories x = with("a<b+3", "b<c", "c<d-5", "a=e");
        due("scale(1)", x.scale(1), 0);
        due("scale(-1)", x.scale(-1), 2);
        due("scale(0)", x.scale(0), 2);
        due("scale(0) again", x.scale(0), 0);
        due("scale(1000) of zeros", x.scale(1000), 0);
        due("scale(2) of ten", with("a<b+1", "a<b+1", "a<b+1", "a<b+1", "a<b+1", "a<b+1", "a<b+1", "a<b+1", "a<b+1", "a<b+1").scale(2), 10);
    }

    private static void great() {
        sentence("GREAT if one of them would be above 2000000000 or below -2000000000");
        sentence("GREAT: a number is above 2000000000 or below -2000000000.");
        JoinedTheories limit = with("a<b+2");
        for (int n = 0; n < 3; n++) {
            due("scale(1000)", limit.scale(1000), 1);
        }
        due("literal(0,3), just not above", limit.literal(0, 3), 2000000000);
        due("scale(-1)", limit.scale(-1), 1);
        due("literal(0,3), just not below", limit.literal(0, 3), -2000000000);
        due("scale(1)", limit.scale(1), 0);
        for (int times : new int[] {-1000, -2, 2, 1000}) {
            dueError(limit, limit.digest(), "scale(" + times + ") from the limit", limit.scale(times), GREAT);
        }
        // 52579 * 494 * 77 is 2000000002, the smallest number above the limit that factors can reach.
        JoinedTheories above = with("a<b+52579");
        due("scale(494)", above.scale(494), 1);
        dueError(above, above.digest(), "scale(77) to 2000000002", above.scale(77), GREAT);
        dueError(above, above.digest(), "scale(-77) to -2000000002", above.scale(-77), GREAT);
        due("scale(-76)", above.scale(-76), 1);
        due("literal(0,3)", above.literal(0, 3), -1974025976);
        // 2 to the 24th: with 256 and 257 an int would wrap around to 0 and to what it was.
        JoinedTheories wrapping = with("a<b+65536");
        due("scale(256)", wrapping.scale(256), 1);
        for (int times : new int[] {128, 256, 257, -128, -256}) {
            dueError(wrapping, wrapping.digest(), "scale(" + times + ") of 16777216", wrapping.scale(times), GREAT);
        }
        noneChanged();
        sentence("Each method names its errors in the order in which they are checked, and the first one that applies is returned.");
        dueError(limit, limit.digest(), "scale(1001) from the limit", limit.scale(1001), OUTSIDE);
        dueError(limit, limit.digest(), "scale(-1001) from the limit", limit.scale(-1001), OUTSIDE);
        due("scale(0) from the limit", limit.scale(0), 1);
        due("literal(0,3)", limit.literal(0, 3), 0);
    }

    private static void noneChanged() {
        sentence("(none is changed then)");
        for (String[] texts : new String[][] {{"a<b+3", "a<b+999999"}, {"a<b+999999", "a<b+3"}, {"a<b-3", "a<b-999999", "a<b-4"}}) {
            JoinedTheories x = with(texts);
            x.scale(1000);
            dueError(x, x.digest(), "scale(3) of " + joined(texts), x.scale(3), GREAT);
            dueError(x, x.digest(), "scale(-3) of " + joined(texts), x.scale(-3), GREAT);
            for (int k = 0; k < texts.length; k++) {
                due("literal(" + k + ",3)", x.literal(k, 3), 1000 * Integer.parseInt(texts[k].substring(3)));
            }
        }
    }

    private static void resultsAnew() {
        sentence("Multiplies the numbers of all bounds");
        JoinedTheories known = with("a<b-1", "b<a", "c<d-1", "d<c+2", "c<e", "e<d");
        due("holds() before scale(0)", known.holds(), 0);
        due("exchange(0) before scale(0)", known.exchange(0), 1);
        due("scale(0)", known.scale(0), 3);
        due("holds() after scale(0)", known.holds(), 1);
        due("exchange(0) after scale(0)", known.exchange(0), 0);
        due("exchange(2) after scale(0)", known.exchange(2), 2);
        JoinedTheories pairs = with("a<b-1", "b<a+1", "a<c", "c<b");
        due("either(0) before scale(2)", pairs.either(0), 2);
        due("far(1,0) before scale(2)", pairs.far(1, 0), 1);
        due("scale(2)", pairs.scale(2), 2);
        due("either(0) after scale(2)", pairs.either(0), NONE);
        due("far(1,0) after scale(2)", pairs.far(1, 0), 2);
        due("apart(1,0) after scale(2)", pairs.apart(1, 0), 2);
    }
}
