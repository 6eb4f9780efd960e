/** Promises 7, 8, 10, 17: A WEEK, by THE LAW and the DRAWS. */
public final class WeeksTest {
    private static final String EACH = "e1(1=1);h10(1=1)";

    public static void main(String[] args) {
        wrongInputs();
        reckoning();
        refused();
        facts();
        firstRule();
        choices();
        draws();
        misprints();
        readers();
        turns();
        tried();
        allKnow();
        silent();
        lastWeek();
        breath();
        Due.end();
    }

    private static int next(int x) {
        return (25173 * x + 13849) % 65536;
    }

    private static WhisperPress press(String law, int... secrets) {
        WhisperPress x = new WhisperPress();
        for (int p = 0; p < secrets.length; p++) {
            if (secrets[p] >= 0) {
                x.person(p, secrets[p], false);
            }
        }
        Due.due("no FAULT in " + law, true, Due.law(x, law) > 0);
        return x;
    }

    private static void wrongInputs() {
        WhisperPress x = press(EACH, 1, 0);
        for (int n : new int[] {0, -1, 101, Integer.MIN_VALUE, Integer.MAX_VALUE}) {
            Due.due("weeks(" + n + ")", -1, x.weeks(n));
            Due.due("tried(" + n + ", 0)", -1, x.tried(n, 0));
            Due.due("allKnow(0, " + n + ")", -1, x.allKnow(0, n));
            Due.due("silent(" + n + ")", -1, x.silent(n));
        }
        for (int what : new int[] {-1, 4, 99, 102, 115, 116, Integer.MIN_VALUE, Integer.MAX_VALUE}) {
            Due.due("tried(1, " + what + ")", -1, x.tried(1, what));
        }
        Due.due("allKnow(-1, 1)", -1, x.allKnow(-1, 1));
        Due.due("allKnow(16, 1)", -1, x.allKnow(16, 1));
        Due.due("no week has gone by", 0, x.count(0));
        Due.due("X is as it was", 1, x.count(7));
    }

    /** a would whisper to b if C holds: a KNOWS 3, b 1, b is a READER, a's BREATH is 25. */
    private static void holds(String c, boolean due) {
        WhisperPress x = press("e1(" + c + ");h10(1=1)", 7, 1);
        Due.gossip(x, "a=25;b!");
        Due.due("C " + c, due ? 1 : 0, x.tried(1, 0));
    }

    private static void reckoning() {
        holds("2+3*4=14", true);
        holds("2*3+4=10", true);
        holds("2+3*4-5=9", true);
        holds("20-3*4/2%4-1=17", true);
        holds("7-2-1=4", true);
        holds("100/7%4=2", true);
        holds("9/1=9", true);
        holds("9%1=0", true);
        holds("100%7*4=8", true);
        holds("[2+3]*4=20", true);
        holds("2*[3+[4-1]*2]=18", true);
        holds("[0-7]/2=0-3", true);
        holds("[0-7]%2=0-1", true);
        holds("7%[0-2]=1", true);
        holds("99999*99999/20000=70493", true);
        holds("65536*32768<0", true);
        holds("65536*32768-1>0", true);
        holds("[65536*32768]/[0-1]<0", true);
        holds("[65536*32768]%[0-1]=0", true);
        holds("65536*65536=0", true);
        holds("1<1", false);
        holds("0-1<0", true);
        holds("2>1", true);
        holds("1>1", false);
        holds("1=2", false);
        holds("00001=1", true);
        holds("1=1&1=2", false);
        holds("1=2|1=1", true);
        holds("1=1|1=1&1=2", true);
        holds("1=2&1=1|1=1", true);
        holds("1=2&(1=1|1=1)", false);
        holds("1=2|1=2|1=2", false);
        holds("1=1&1=1&1=1", true);
        holds("1=1&1=1&1=2", false);
        holds("1=2&1=1&1=1", false);
        holds("1=2|1=1|1=2", true);
        holds("1=1&1=2|1=2&1=1|1=1&1=1", true);
        holds("!1=2", true);
        holds("!1=1|1=1", true);
        holds("!(1=1|1=1)", false);
        holds("!!1=1", true);
        holds("!1=2&1=2", false);
    }

    private static void refused() {
        holds("1/0=0", false);
        holds("!1/0=0", false);
        holds("1%0=0|1=1", false);
        holds("1=1|1/0=0", true);
        holds("1=2&1/0=0|1=1", true);
        holds("1=1&1=1|1/0=0", true);
        holds("(1=2&1/0=0)|1=1", true);
        holds("(1=1&1/0=0)|1=1", false);
        holds("!(1=1|1/0=0)|1=1", true);
        holds("1<2/[n-3]", false);
        WhisperPress x = press("e1/0(1=1);e5(1=1);h10(1=1)", 1, 0);
        Due.due("an E that is refused is 0", 0, x.tried(1, 0));
        x = press("e5(1/0=0);e5(1=1);h10(1=1)", 1, 0);
        Due.due("a C that is refused does not hold", 1, x.tried(1, 0));
        x = press("e5+1/0(1=1);h10(1=1)", 1, 0);
        Due.due("all of the E is 0", 0, x.tried(1, 0));
    }

    private static void facts() {
        holds("p=0&k=1&n=3&o=1&u=2&b=25&d=1&w=0&c=0", true);
        WhisperPress x = press("e1(p=2&k=0&n=1&o=1&u=1&b=0&d=0);h10(1=1)", 1, 2, 4);
        Due.due("c's choice is a", 1, x.weeks(1));
        Due.due("from c", 2, x.backNumber(1, 0));
        Due.due("to a", 0, x.backNumber(1, 1));
        x = press("e1(c=1|p=0);h10(1=1)", 1, 2, 4);
        Due.due("c is what is printed so far", 2, x.weeks(1));
        x = press("e1(w=3);h10(1=1)", 1, 0);
        Due.due("w, not yet", 0, x.weeks(3));
        Due.due("w, now", 1, x.weeks(1));
        x = press("e1(w=1);h10(1=1)", 1, 0);
        Due.due("w modulo 100: first 1", 1, x.weeks(100));
        Due.gossip(x, "b-A");
        Due.due("w modulo 100: 100", 0, x.weeks(1));
        Due.due("w modulo 100: 101", 1, x.weeks(1));
    }

    private static void firstRule() {
        WhisperPress x = press("e0(k=1);e9(1=1);h10(1=1)", 1, 0, 0);
        x.weeks(1);
        Due.due("the first RULE whose C holds", 2, x.backNumber(1, 1));
        x = press("h0(1=1);h10(1=1);e1(1=1)", 1, 0);
        Due.due("h: the first", 0, x.tried(1, 0));
        x = press("h10(1=2);e1(1=1)", 1, 0);
        Due.due("h: none", 0, x.tried(1, 0));
        x = press("e9999+k(1=1);h10(1=1)", 1, 0, 0);
        x.weeks(1);
        Due.due("e: 9999 at the most", 1, x.backNumber(1, 1));
        x = press("e9998+k(1=1);h10(1=1)", 1, 0, 0);
        x.weeks(1);
        Due.due("e: 10000 is no more than 9999", 1, x.backNumber(1, 1));
        x = press("e9990+k(1=1);h10(1=1)", 1, 0, 0);
        x.weeks(1);
        Due.due("e: below that", 2, x.backNumber(1, 1));
        x = press("e1-k(1=1);h10(1=1)", 1, 0, 0);
        Due.due("e: 0 at the least", 0, x.tried(1, 0));
        x = press("e1(1=2);".repeat(15) + "e1(1=2)", 1, 0);
        Due.due("sixteen RULES, none of which holds", 0, x.tried(1, 0));
        x = press("h99999(1=1);e1(1=1)", 1, 0);
        Due.due("h: 10 at the most", 1, x.tried(1, 0));
        x = press("h0-5(1=1);e1(1=1)", 1, 0);
        Due.due("h: 0 at the least", 0, x.tried(1, 0));
    }

    private static void choices() {
        WhisperPress x = press("e1(1=1);h10(1=1)", 0b0110, 0b0110, 0b0010, 0b0100);
        Due.due("a and b whisper", 2, x.weeks(1));
        Due.due("the lowest of like ones who does not KNOW all", 2, x.backNumber(1, 1));
        Due.due("the lowest SECRET he does not KNOW", 2, x.backNumber(1, 2));
        Due.due("b's choice: c KNOWS by now", 3, x.backNumber(1, 4));
        Due.due("b's SECRET", 1, x.backNumber(1, 5));
        x = press("e1+k(1=1);h10(1=1)", 1, -1, 0, -1, 0);
        x.weeks(1);
        Due.due("one who is not told is not chosen", 4, x.backNumber(1, 1));
        x = press("e1(1=1);h10(1=1)", 1);
        Due.due("nobody else is told", 0, x.weeks(1));
        Due.due("no DRAW", 1, x.count(7));
        x = press("e1(1=1);h10(1=1)", 3, 3);
        Due.due("all KNOW all", 0, x.weeks(1));
        Due.due("no DRAW then", 1, x.count(7));
        x = press("h10(1=1)", 1, 0);
        Due.due("no e", 0, x.weeks(1));
        Due.due("no DRAW without e", 1, x.count(7));
        x = new WhisperPress();
        x.person(0, 1, false);
        x.person(1, 0, true);
        Due.due("no LAW", 0, x.weeks(2));
        Due.due("weeks go by all the same", 2, x.count(3));
    }

    private static void draws() {
        int first = next(1);
        int second = next(first);
        Due.due("the first DRAW", 2, first % 10);
        WhisperPress x = press("e1(1=1);h2(1=1)", 1, 0);
        Due.due("a DRAW that is not below h", 0, x.weeks(1));
        Due.due("no second DRAW", first, x.count(7));
        x = press("e1(1=1);h3(1=1)", 1, 0);
        Due.due("a DRAW below h", 1, x.weeks(1));
        Due.due("a second DRAW", second, x.count(7));
        x = press("e1(1=1)", 1, 0);
        Due.due("no h", 0, x.weeks(1));
        Due.due("a DRAW all the same", first, x.count(7));
        x = press("e1(1=1);h10(1=1)", 1, 0);
        x.seed(65535);
        x.weeks(1);
        Due.due("THE SEED", next((25173 * 65535 + 13849) & 65535), x.count(7));
        x = press("e1(1=1);h10(k=1);h0(1=1)", 1, 0, 0);
        Due.due("h is asked with that one", 1, x.tried(1, 0));
    }

    private static void misprints() {
        WhisperPress x = press("e5-k(p=0);h10(1=1);m10(1=1)", 1, 0, 0);
        Due.due("misprints", 1, x.tried(1, 1));
        x.weeks(1);
        Due.due("to the next one", 2, x.backNumber(1, 1));
        Due.due("that one KNOWS it", 1, x.personIs(1, 0));
        Due.due("the other one does not", 0, x.personIs(2, 0));
        x = press("e1+k(1=1);h10(1=1);m10(1=1)", -1, 1, -1, 0, 0);
        x.weeks(1);
        Due.due("round, he himself left out", 3, x.backNumber(1, 1));
        x = press("e1+k(1=1);h10(1=1);m10(1=1)", 1, -1, -1, 0, -1);
        Due.due("none but that one: a misprint", 1, x.tried(1, 1));
        x.weeks(1);
        Due.due("none but that one", 3, x.backNumber(1, 1));
        x = press("e1(1=1);h10(1=1);m10(u=2&o=0&b=0&c=0)", 3, 0, 3);
        Due.due("m is asked ahead of both", 1, x.tried(1, 1));
        int second = next(next(1)) % 10;
        x = press("e1(1=1);h10(1=1);m" + second + "(1=1)", 1, 0, 1);
        Due.due("a DRAW that is not below m", 0, x.tried(1, 1));
        x = press("e1(1=1);h10(1=1);m" + (second + 1) + "(1=1)", 1, 0, 1);
        Due.due("a DRAW below m", 1, x.tried(1, 1));
    }

    private static WhisperPress readingPress(String law) {
        WhisperPress x = press(law, 1, 0, 0, 0);
        Due.gossip(x, "c!;d!");
        return x;
    }

    private static void readers() {
        String base = "e1(k=1);h10(1=1)";
        WhisperPress x = readingPress(base);
        x.weeks(1);
        Due.due("without an r each READER", 1, x.personIs(2, 0));
        Due.due("without an r each READER, d", 1, x.personIs(3, 0));
        x = readingPress(base + ";r(p=9);r(p=3)");
        x.weeks(1);
        Due.due("c does not", 0, x.personIs(2, 0));
        Due.due("any r will do", 1, x.personIs(3, 0));
        x = readingPress(base + ";r(k=0&o=0&u=0&d=0&c=1&w=0&n=0&b=0)");
        x.weeks(1);
        Due.due("what r is asked with", 1, x.personIs(2, 0));
        x = readingPress(base + ";r(1/0=0)");
        x.weeks(1);
        Due.due("an r that is refused does not hold", 0, x.personIs(2, 0));
        x = readingPress("r(p=3);" + base);
        x.weeks(1);
        Due.due("an r ahead of the others: c does not", 0, x.personIs(2, 0));
        Due.due("an r ahead of the others: d does", 1, x.personIs(3, 0));
        x = press("e1(p=1&k=2);h10(1=1)", 8, 1, 0);
        Due.gossip(x, "a!");
        x.weeks(1);
        Due.due("a reads, and KNOWS what he knew", 9, x.personIs(0, 0));
        Due.law(x, "r(1=2);e1(p=0&k=2);h10(1=1)");
        Due.gossip(x, "b!");
        x.weeks(1);
        Due.due("no r holds", 1, x.personIs(1, 0));
        Due.law(x, "r(1=2);".repeat(14) + "e1(p=0&k=2);h10(1=1)");
        x.person(2, 0, false);
        x.weeks(1);
        Due.due("none of fourteen holds", 1, x.personIs(1, 0));
        Due.law(x, "r(1=2);".repeat(15) + "r(1=2)");
        Due.due("none of sixteen holds", 0, x.weeks(1));
        x = press("e1(k=1);h10(1=1);r(1=1)", 1, 0, 0);
        x.weeks(1);
        Due.due("he must be a READER", 0, x.personIs(2, 0));
        x = press(base + ";m10(1=1)", 1, 0, 0, 0);
        Due.gossip(x, "d!");
        x.weeks(1);
        Due.due("misprinted SECRETS are read, too", 1, x.personIs(3, 0));
        Due.due("he to whom it is misprinted does not KNOW it", 0, x.personIs(2, 0));
    }

    private static void turns() {
        WhisperPress x = press("e1(k=p+1);h10(1=1)", 1, 0, 0, 0);
        Due.due("by numbers, as it is then", 3, x.weeks(1));
        Due.due("d KNOWS in one week", 1, x.personIs(3, 0));
        x = press("e1(k+1=p);h10(1=1)", 0, 0, 0, 1);
        Due.due("against the numbers", 1, x.weeks(1));
        Due.due("c KNOWS", 1, x.personIs(2, 0));
        Due.due("b does not", 0, x.personIs(1, 0));
        int[] sixteen = new int[16];
        for (int p = 0; p < 16; p++) {
            sixteen[p] = 1 << p;
        }
        x = press("e1(1=1);h10(1=1)", sixteen);
        Due.due("16 WHISPERS in one ISSUE", 16, x.weeks(1));
        Due.due("the last of them is p's", 15, x.backNumber(1, 45));
    }

    private static void tried() {
        WhisperPress x = press("e1(1=1);h10(1=1)", 3, 4);
        Due.due("0 WHISPERS", 2, x.tried(1, 0));
        Due.due("0 WHISPERS of all weeks", 3, x.tried(100, 0));
        Due.due("1 misprints", 0, x.tried(100, 1));
        Due.due("2 at least one", 7, x.tried(1, 2));
        Due.due("3 all", 5, x.tried(1, 3));
        Due.due("3 all, later", 7, x.tried(2, 3));
        Due.due("3 all but a", 2, press("r(1=1)", 2, 7, 7).tried(1, 3));
        Due.due("100", 7, x.tried(1, 100));
        Due.due("101", 5, x.tried(1, 101));
        Due.due("102", -1, x.tried(1, 102));
        Due.due("nothing is changed: X", 1, x.count(7));
        Due.due("nothing is changed: THE WEEK", 0, x.count(0));
        Due.due("nothing is changed: BACK NUMBERS", 0, x.count(3));
        Due.due("nothing is changed: BREATH", 0, x.count(8));
        Due.due("nothing is changed: SECRETS", 3, x.personIs(0, 0));
        Due.due("as it will be", 2, x.weeks(1));
        x = new WhisperPress();
        Due.due("nobody told: 3", 0, x.tried(1, 3));
        Due.due("nobody told: 2", 0, x.tried(1, 2));
    }

    private static void allKnow() {
        WhisperPress x = press("e1(k=p+1&w>1);h10(1=1)", 3, 2, 2, 2);
        Due.due("they do", 0, x.allKnow(1, 1));
        Due.due("behind 3 weeks", 3, x.allKnow(0, 3));
        Due.due("behind 3 of 100", 3, x.allKnow(0, 100));
        Due.due("not in 2", -2, x.allKnow(0, 2));
        Due.due("never", -2, x.allKnow(5, 100));
        Due.due("nothing is changed", 0, x.count(0));
        Due.due("nobody is told", -2, new WhisperPress().allKnow(0, 1));
    }

    private static void silent() {
        WhisperPress x = press("e1(w=2|w=6);h10(1=1)", 3, 0);
        Due.due("silent(1)", 1, x.silent(1));
        Due.due("silent(3)", 2, x.silent(3));
        Due.due("silent(6)", 3, x.silent(6));
        Due.due("silent(10)", 3, x.silent(10));
        Due.due("silent(11)", 4, x.silent(11));
        Due.due("silent(100)", 93, x.silent(100));
        x = press(EACH, 1, 0);
        Due.due("not silent", 0, x.silent(1));
    }

    private static void lastWeek() {
        WhisperPress x = press("e1(w=99);h10(1=1)", 0, 0);
        for (int i = 0; i < 99; i++) {
            x.weeks(100);
        }
        Due.due("9900", 9900, x.count(0));
        x.weeks(98);
        Due.due("9998", 9998, x.count(0));
        Due.due("as many as can are tried", 1, x.silent(100));
        x.keep();
        Due.law(x, "e1(w=98);h10(1=1)");
        Due.gossip(x, "a+A;a+B");
        Due.due("as many as can", 1, x.weeks(100));
        Due.due("9999", 9999, x.count(0));
        Due.due("20 BACK NUMBERS", 20, x.count(3));
        Due.due("the last one", 1, x.backNumber(1, 100));
        Due.due("none goes by", 0, x.weeks(1));
        Due.due("9999 still", 9999, x.count(0));
        Due.due("none is silent", 0, x.silent(5));
        Due.due("tried: none goes by", 0, x.tried(5, 0));
        Due.due("tried: SECRETS then", 1, x.tried(5, 101));
        Due.due("not in these", -2, x.allKnow(1, 100));
        Due.due("they do", 0, x.allKnow(0, 100));
        Due.due("undo()", true, x.undo());
        Due.due("9998 again", 9998, x.count(0));
    }

    private static void breath() {
        WhisperPress x = press(EACH, 7, 0);
        Due.gossip(x, "a=9998");
        x.weeks(1);
        Due.due("9999", 9999, x.personIs(0, 3));
        x.weeks(1);
        Due.due("9999 at the most", 9999, x.personIs(0, 3));
        Due.due("he whispers all the same", 3, x.personIs(1, 0));
        Due.due("b has none", 0, x.personIs(1, 3));
    }
}
