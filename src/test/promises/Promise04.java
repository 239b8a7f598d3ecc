/** Promise 4: fault. */
final class Promise04 extends Checks {
    private static final String DIGITS = "0123456789", TERMS = "abcdefg";

    static void check() {
        promise(4);
        continuations();
        firstFaults();
        anyLength();
        tooGreat();
        noFault();
    }

    private static void faultIs(String page, int index) {
        JoinedTheories x = new JoinedTheories();
        write(x, page);
        long before = x.digest();
        due("fault() of " + page, x.fault(), index);
        due("fault() of " + page + " again", x.fault(), index);
        due("digest() after fault() of " + page, x.digest(), before);
    }

    /** Of all characters that a page may have, exactly these ones continue the text. */
    private static void continuedBy(String text, String signs) {
        for (char sign = 32; sign <= 126; sign++) {
            faultIs(text + sign, signs.indexOf(sign) >= 0 ? text.length() + 1 : text.length());
        }
    }

    private static void continuations() {
        sentence("A term is a name, a to e, or f(s), or g(s,t), where s and t are terms.");
        for (String text : new String[] {"", "f(", "g(", "g(a,", "g(f(a),", "f(g(", "a=", "a#", "a<", "g(a,b)<", "a=g(", "a=g(a,"}) {
            continuedBy(text, TERMS);
        }
        for (String text : new String[] {"f", "g", "f(f", "g(a,g", "a=f", "a<g"}) {
            continuedBy(text, "(");
        }
        sentence("term = \"a\" | \"b\" | \"c\" | \"d\" | \"e\" | \"f(\" term \")\" | \"g(\" term \",\" term \")\"");
        for (String text : new String[] {"f(a", "g(a,b", "f(f(a)", "f(g(a,b)", "g(a,f(b)", "g(a,g(b,c)", "a=f(e", "a<g(b,c"}) {
            continuedBy(text, ")");
        }
        for (String text : new String[] {"g(a", "g(f(a)", "g(g(a,b)", "f(g(e", "a#g(b"}) {
            continuedBy(text, ",");
        }
        sentence("A literal has a left term, a sign and a right term.");
        for (String text : new String[] {"a", "b", "c", "d", "e", "f(a)", "g(a,b)", "f(f(f(a)))"}) {
            continuedBy(text, "=#<");
        }
        sentence("literal = term ( \"=\" | \"#\" ) term | term \"<\" term [ ( \"+\" | \"-\" ) number ]");
        for (String text : new String[] {"a=b", "a#b", "a=f(b)", "f(a)#g(a,b)"}) {
            continuedBy(text, "");
        }
        for (String text : new String[] {"a<b", "a<f(b)", "f(a)<g(a,b)"}) {
            continuedBy(text, "+-");
        }
        sentence("A number is 1 to 999999 in decimal digits without leading zeros");
        for (String text : new String[] {"a<b+", "a<b-", "f(a)<g(a,b)-"}) {
            continuedBy(text, "123456789");
        }
        for (String text : new String[] {"a<b+1", "a<b-9", "a<b+10", "a<b+100", "a<b-99999", "a<b+10000"}) {
            continuedBy(text, DIGITS);
        }
    }

    private static void firstFaults() {
        sentence("Returns the index (from 0) of the first character of the page with which, after the characters before it, no literal continues");
        faultIs("~~~", 0);
        faultIs("h=#", 0);
        faultIs("a=~~", 2);
        faultIs("a=b=c#", 3);
        faultIs("f(f(f(f(f(f(f(f(f(f(f(f(f(f(f(f(f(f(f(fa", 39);
        faultIs("bf(f(f(f(f(f(f(f(f(f(f(f(f(f(f(f(f(f(f(f", 1);
        sentence("A literal is written as follows, without blanks:");
        faultIs(" a=b", 0);
        faultIs("a =b", 1);
        faultIs("a= b", 2);
        faultIs("a=b ", 3);
        faultIs("f( a)=b", 2);
        faultIs("a<b +1", 3);
        faultIs("a<b+ 1", 4);
        faultIs("a<b+1 ", 5);
    }

    private static void anyLength() {
        sentence("(literals of any length are considered)");
        faultIs("f(f(f(f(f(f(f(f(f(f(f(f(f(f(f(f(f(f(f(f(", 40);
        faultIs("g(g(g(g(g(g(g(g(g(g(g(g(g(g(g(g(g(g(g(g(", 40);
        faultIs("f(f(f(f(f(f(f(f(f(f(f(f(f(f(f(f(f(f(f(a)", 40);
        faultIs("g(g(g(g(g(g(g(g(g(g(g(g(g(a,b),c),d),e),", 40);
        faultIs("g(a,g(b,g(c,g(d,g(e,f(a))))))<g(e,g(d,g(", 29 + 11);
        faultIs("f(f(f(f(f(f(f(f(f(f(f(f(a))))))))))))=e", 39);
        JoinedTheories x = with("a=a", "a=a", "a=a", "a=a", "a=a", "a=a", "a=a", "a=a", "a=a", "a=a");
        write(x, "f(f(f(f(f(f(f(a)))))))=b");
        due("fault() of a literal that has no room", x.fault(), 24);
    }

    private static void tooGreat() {
        sentence("A digit with which a number would be above 999999 is such a character.");
        for (String text : new String[] {"a<b+999999", "a<b-999999", "a<b+100000", "a<b-100000", "a<b+123456", "f(a)<g(a,b)+999998"}) {
            faultIs(text, text.length());
            continuedBy(text, "");
        }
        faultIs("a<b+1000000", 10);
        faultIs("a<b+9999999999999999999999999999999999", 10);
        faultIs("a<b-4294967297", 10);
    }

    private static void noFault() {
        sentence("the number of characters of the page if there is no such character (also if the literal is not complete)");
        sentence("Returns the index");
        for (String page : new String[] {"", "a", "f", "g(", "f(a", "g(a,", "a=", "a=b", "a#b", "a<b", "a<b+", "a<b-", "a<b+1", "a<b-999999"}) {
            faultIs(page, page.length());
        }
    }
}
