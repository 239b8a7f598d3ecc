/** Promise 1: a new object. */
final class Promise01 extends Checks {
    static void check() {
        promise(1);
        constants();
        nothingInIt();
        objectsOfTheirOwn();
        names();
        manyCalls();
    }

    private static void constants() {
        sentence("NONE = -2000000001, UNKNOWN = -2000000002, OUTSIDE = -2000000003, STATE = -2000000004, FULL = -2000000005, GREAT = -2000000006;");
        due("NONE", JoinedTheories.NONE, -2000000001);
        due("UNKNOWN", JoinedTheories.UNKNOWN, -2000000002);
        due("OUTSIDE", JoinedTheories.OUTSIDE, -2000000003);
        due("STATE", JoinedTheories.STATE, -2000000004);
        due("FULL", JoinedTheories.FULL, -2000000005);
        due("GREAT", JoinedTheories.GREAT, -2000000006);
    }

    private static void nothingInIt() {
        sentence("Creates an object without literals and with an empty page.");
        int[] counts = {0, 5, 0, 0, 0, 0};
        for (int what = 0; what < 6; what++) {
            due("count(" + what + ")", new JoinedTheories().count(what), counts[what]);
        }
        due("blank()", new JoinedTheories().blank(), 0);
        due("fault()", new JoinedTheories().fault(), 0);
        due("add()", new JoinedTheories().add(), STATE);
        due("drop(0)", new JoinedTheories().drop(0), UNKNOWN);
        due("scale(7)", new JoinedTheories().scale(7), 0);
        due("literal(0,0)", new JoinedTheories().literal(0, 0), UNKNOWN);
        due("exchange(0)", new JoinedTheories().exchange(0), 0);
        due("exchange(1)", new JoinedTheories().exchange(1), 1);
        due("exchange(2)", new JoinedTheories().exchange(2), 5);
        due("far(0,1)", new JoinedTheories().far(0, 1), NONE);
        due("holds()", new JoinedTheories().holds(), 1);
        due("apart(0,1)", new JoinedTheories().apart(0, 1), NONE);
        due("implied(0,1,0)", new JoinedTheories().implied(0, 1, 0), 0);
        due("implied(0,1,1)", new JoinedTheories().implied(0, 1, 1), 0);
        due("why()", new JoinedTheories().why(), STATE);
        due("either(0)", new JoinedTheories().either(0), NONE);
    }

    private static void objectsOfTheirOwn() {
        sentence("Creates an object");
        long before = new JoinedTheories().digest();
        JoinedTheories used = with("f(a)=b", "a<b-1", "c#d");
        used.drop(2);
        used.scale(3);
        used.either(0);
        used.letter('a');
        due("digest() of a new object beside a used one", new JoinedTheories().digest(), before);
        due("count(0) of the used one", used.count(0), 2);
    }

    private static void names() {
        sentence("The names a to e are the terms 0 to 4, whether they occur or not.");
        JoinedTheories x = new JoinedTheories();
        for (int t = 0; t < 5; t++) {
            due("term(" + t + ",0)", x.term(t, 0), 0);
            due("term(" + t + ",3)", x.term(t, 3), 1);
            due("far(" + t + "," + t + ")", x.far(t, t), 0);
        }
        due("term(5,0)", x.term(5, 0), UNKNOWN);
        due("add() of e=d", enter(x, "e=d"), 0);
        due("literal(0,1)", x.literal(0, 1), 4);
        due("literal(0,2)", x.literal(0, 2), 3);
        due("count(1)", x.count(1), 5);
    }

    /** Letters and blanks first, so that the calls after them are the last ones of the 512. */
    private static void manyCalls() {
        sentence("An object is used for at most 512 calls after it has been made");
        JoinedTheories x = new JoinedTheories();
        int calls = 0;
        while (calls < 500) {
            for (int n = 1; n <= 41 && calls < 500; n++, calls++) {
                due("letter(97) as call " + calls, x.letter(97), n <= 40 ? n : FULL);
            }
            if (calls < 500) {
                due("blank() as call " + calls, x.blank(), 40);
                calls++;
            }
        }
        due("blank() as call 501", x.blank(), 500 % 42);
        for (char sign : "f(a)#f(b)".toCharArray()) {
            x.letter(sign);
        }
        due("add() as call 511", x.add(), 0);
        due("implied(0,1,1) as call 512", x.implied(0, 1, 1), 1);
    }
}
