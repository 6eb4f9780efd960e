/** Terms: "what is divided by 0 is REFUSED: then the whole C of the RULE does not hold, the E of it is 0". */
public final class DividedTest {
    public static void main(String[] args) {
        wholeC();
        whatIsNotAsked();
        laterRule();
        eOfE();
        eSettles();
        eOfH();
        eOfM();
        cOfR();
        byFacts();
        Due.end();
    }

    private static WhisperPress press(String law) {
        WhisperPress x = new WhisperPress();
        x.person(0, 3, false);
        x.person(1, 0, false);
        Due.due("no FAULT in " + law, true, Due.law(x, law) > 0);
        return x;
    }

    private static void holds(String test, boolean due) {
        Due.due(test, due ? 1 : 0, press("e1(" + test + ");h10(1=1)").tried(1, 0));
    }

    private static void wholeC() {
        holds("1/0=0", false);
        holds("1%0=0", false);
        holds("0/0=0", false);
        holds("0%0=0", false);
        holds("0=1/0", false);
        holds("1/0<1", false);
        holds("1/0>0-1", false);
        holds("1/[1-1]=0", false);
        holds("[1/0]*0=0", false);
        holds("1/0*0=0", false);
        holds("5+1/0-1/0=5", false);
        holds("0*[1%0]=0", false);
        holds("!1/0=0", false);
        holds("!!1/0=0", false);
        holds("!(1/0=0)", false);
        holds("!(!(1/0=1))", false);
        holds("1/0=0|1=1", false);
        holds("1=2|1/0=0|1=1", false);
        holds("1=1&1/0=0|1=1", false);
        holds("(1/0=0)|1=1", false);
        holds("(1/0=0|1=1)|1=1", false);
        holds("!(1/0=0)|1=1", false);
        holds("1=1&1/0=0", false);
        holds("1=1&(1=2|1/0=0)", false);
        holds("1/0=1/0", false);
    }

    /** "Of a C as much is asked, from the left, as matters." */
    private static void whatIsNotAsked() {
        holds("1=1|1/0=0", true);
        holds("1=1|1=2|1/0=0", true);
        holds("1=2|1=1|1/0=0", true);
        holds("1=1&1=1|1/0=0", true);
        holds("1=2&1/0=0", false);
        holds("1=2&1/0=0|1=1", true);
        holds("1=2&1=1&1/0=0|1=1", true);
        holds("1=2&(1/0=0|1=1)|1=1", true);
        holds("(1=1|1/0=0)&1=1", true);
        holds("!(1=2&1/0=0)", true);
        holds("!(1=1|1/0=0)", false);
        holds("!(1=1|1/0=0)|1=1", true);
        holds("!(1=1|1%0=0)&1/0=0|1=1", true);
        holds("1=1|!1/0=0&1=1", true);
        holds("(1=2&1/0=0)|(1=1|1/0=0)", true);
    }

    private static void laterRule() {
        Due.due("a later RULE", 1, press("e1(1/0=0);e1(1=1);h10(1=1)").tried(1, 0));
        Due.due("an earlier RULE", 1, press("e1(1=1);e1(1/0=0);h10(1=1)").tried(1, 0));
        Due.due("a later RULE of h", 1, press("e1(1=1);h0(1/0=0);h10(1=1)").tried(1, 0));
        Due.due("no RULE of h is left", 0, press("e1(1=1);h10(1/0=0)").tried(1, 0));
        Due.due("a later RULE of m", 1, press("e1(1=1);h10(1=1);m0(1%0=0);m10(1=1)").tried(1, 1));
    }

    private static void eOfE() {
        Due.due("1/0", 0, press("e1/0(1=1);h10(1=1)").tried(1, 0));
        Due.due("1%0", 0, press("e1%0(1=1);h10(1=1)").tried(1, 0));
        Due.due("9+1/0: the whole E", 0, press("e9+1/0(1=1);h10(1=1)").tried(1, 0));
        Due.due("1/0+9: the whole E", 0, press("e1/0+9(1=1);h10(1=1)").tried(1, 0));
        Due.due("9-[1/0]*0: the whole E", 0, press("e9-[1/0]*0(1=1);h10(1=1)").tried(1, 0));
        WhisperPress x = press("e1/0(1=1);h10(1=1)");
        x.weeks(1);
        Due.due("nobody to choose, no DRAW", 1, x.count(7));
        x = press("e5/[k-1](1=1);h10(1=1)");
        x.person(2, 0, false);
        x.weeks(1);
        Due.due("0 of b alone, so c", 2, x.backNumber(1, 1));
    }

    /** It is the E of the first RULE whose C holds, so no later RULE is asked. */
    private static void eSettles() {
        Due.due("e", 0, press("e1/0(1=1);e9(1=1);h10(1=1)").tried(1, 0));
        Due.due("h", 0, press("e1(1=1);h1/0(1=1);h10(1=1)").tried(1, 0));
        Due.due("m", 0, press("e1(1=1);h10(1=1);m1/0(1=1);m10(1=1)").tried(1, 1));
        Due.due("an E that is not asked", 1, press("e1/0(1=2);e9(1=1);h10(1=1)").tried(1, 0));
    }

    private static void eOfH() {
        WhisperPress x = press("e1(1=1);h10/0(1=1)");
        Due.due("no WHISPER", 0, x.weeks(1));
        Due.due("one DRAW", (25173 + 13849) % 65536, x.count(7));
    }

    private static void eOfM() {
        WhisperPress x = press("e1(k=1&p=0);h10(1=1);m10%0(1=1)");
        x.person(2, 3, false);
        Due.due("a WHISPER", 1, x.weeks(1));
        Due.due("not misprinted", 1, x.backNumber(1, 1));
    }

    private static void cOfR() {
        WhisperPress x = press("e1(k=1&p=0);h10(1=1);r(1/0=0)");
        x.person(2, 0, true);
        x.weeks(1);
        Due.due("he does not read", 0, x.personIs(2, 0));
        x = press("e1(k=1&p=0);h10(1=1);r(1/0=0);r(1=1)");
        x.person(2, 0, true);
        x.weeks(1);
        Due.due("any will do", 1, x.personIs(2, 0));
        x = press("e1(k=1&p=0);h10(1=1);r(1/k=0|1=1)");
        x.person(2, 0, true);
        x.weeks(1);
        Due.due("k is 0 in r", 0, x.personIs(2, 0));
    }

    /** Letters that are 0 now: p, o, b, d, w, c. */
    private static void byFacts() {
        for (String letter : "p o b d w c".split(" ")) {
            holds("1/" + letter + "=0|1=1", false);
            holds("1%" + letter + "=0|1=1", false);
        }
        for (String letter : "k n u".split(" ")) {
            holds("1/" + letter + "=0|1=1", true);
            holds("1%" + letter + "=0|1=1", true);
        }
    }
}
