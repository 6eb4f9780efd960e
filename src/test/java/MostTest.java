/** Terms: what is at most so many. */
public final class MostTest {
    private static final String EACH = "e1(1=1);h10(1=1)";

    public static void main(String[] args) {
        breathByWhispers();
        breathByGossip();
        breathInTheLaw();
        theWeek();
        noneGoesBy();
        asManyAsCan();
        twentyIssues();
        sixteenWhispers();
        twentyLines();
        sixtyWords();
        lettersOfAWord();
        sixteenRules();
        allRulesAreAsked();
        longestTests();
        longestValues();
        boundsOfE();
        boundsOfH();
        boundsOfM();
        Due.end();
    }

    private static WhisperPress press(String law, int... secrets) {
        WhisperPress x = new WhisperPress();
        for (int p = 0; p < secrets.length; p++) {
            x.person(p, secrets[p], false);
        }
        Due.due("no FAULT in " + law, true, Due.law(x, law) > 0);
        return x;
    }

    private static void breathByWhispers() {
        WhisperPress x = press(EACH, 15, 0);
        Due.gossip(x, "a=9997");
        for (int due : new int[] {9998, 9999, 9999, 9999}) {
            Due.due("he whispers", 1, x.weeks(1));
            Due.due("BREATH", due, x.personIs(0, 3));
        }
        Due.due("all is told", 15, x.personIs(1, 0));
        Due.due("BREATH of all", 9999, x.count(8));
    }

    private static void breathByGossip() {
        WhisperPress x = press(EACH, 0);
        for (int breath : new int[] {0, 9, 10, 99, 100, 999, 1000, 9999}) {
            Due.due("a=" + breath, 1, Due.gossip(x, "a=" + breath));
            Due.due("BREATH", breath, x.personIs(0, 3));
        }
        Due.due("a=10000", -2006, Due.gossip(x, "a=10000"));
        Due.due("BREATH stays", 9999, x.personIs(0, 3));
    }

    private static void breathInTheLaw() {
        WhisperPress x = press("e1(b=9999);h10(1=1)", 7, 0);
        Due.gossip(x, "a=9998");
        Due.due("b is 9998", 0, x.weeks(1));
        Due.gossip(x, "a=9999");
        Due.due("b is 9999", 1, x.weeks(1));
        Due.due("b is 9999 still", 1, x.weeks(1));
    }

    /** THE WEEK is so far by 99 calls or more; 512 are the most. */
    private static WhisperPress inWeek(int week) {
        WhisperPress x = new WhisperPress();
        for (int left = week; left > 0; left -= 100) {
            x.weeks(Math.min(100, left));
        }
        Due.due("THE WEEK", week, x.count(0));
        return x;
    }

    private static void theWeek() {
        WhisperPress x = inWeek(9998);
        Due.due("weeks(1)", 0, x.weeks(1));
        Due.due("9999", 9999, x.count(0));
        Due.due("keep()", 9999, x.keep());
        Due.due("weeks(1), none goes by", 0, x.weeks(1));
        Due.due("9999 still", 9999, x.count(0));
        Due.due("weeks(100), none goes by", 0, x.weeks(100));
        Due.due("9999 to the end", 9999, x.count(0));
        Due.due("weeks(0)", -1, x.weeks(0));
        Due.due("weeks(101)", -1, x.weeks(101));
        Due.due("20 BACK NUMBERS", 20, x.count(3));
    }

    private static void noneGoesBy() {
        WhisperPress x = inWeek(9998);
        x.person(0, 7, false);
        x.person(1, 0, false);
        x.person(2, 0, true);
        Due.law(x, "e1(k=1);h10(1=1);r(w=98)");
        Due.due("the last one", 1, x.weeks(1));
        int drawn = x.count(7);
        for (int i = 0; i < 2; i++) {
            Due.due("nothing is whispered", 0, x.weeks(50));
            Due.due("BREATH", 1, x.personIs(0, 3));
            Due.due("b KNOWS the first alone", 1, x.personIs(1, 0));
            Due.due("c has read the last one", 1, x.personIs(2, 0));
            Due.due("no DRAW", drawn, x.count(7));
            Due.due("the last BACK NUMBER is the last one", 1, x.backNumber(1, 100));
            Due.due("the one before it", 0, x.backNumber(2, 100));
        }
        Due.due("none is tried", 0, x.tried(100, 0));
        Due.due("none is misprinted", 0, x.tried(100, 1));
        Due.due("SECRETS of any then", 7, x.tried(100, 2));
        Due.due("SECRETS of all then", 1, x.tried(100, 3));
        Due.due("SECRETS of b then", 1, x.tried(100, 101));
        Due.due("none is silent", 0, x.silent(100));
        Due.due("they do", 0, x.allKnow(0, 1));
        Due.due("not in these", -2, x.allKnow(1, 100));
    }

    private static void asManyAsCan() {
        WhisperPress x = inWeek(9997);
        x.person(0, 65535, false);
        x.person(1, 0, false);
        Due.law(x, EACH);
        Due.due("two are tried", 2, x.tried(100, 0));
        Due.due("SECRETS of b then", 3, x.tried(100, 101));
        Due.due("two are tried of two", 2, x.tried(2, 0));
        Due.due("behind two", 2, x.allKnow(1, 100));
        Due.due("not in these", -2, x.allKnow(2, 100));
        Due.due("none is silent", 0, x.silent(100));
        Due.due("two go by", 2, x.weeks(100));
        Due.due("9999", 9999, x.count(0));
        x = inWeek(9997);
        Due.due("two are silent", 2, x.silent(100));
        Due.due("one is silent", 1, x.silent(1));
    }

    private static void twentyIssues() {
        WhisperPress x = new WhisperPress();
        for (int week = 1; week <= 45; week++) {
            x.weeks(1);
            Due.due("BACK NUMBERS behind WEEK " + week, Math.min(week, 20), x.count(3));
            Due.due("the twentieth", week < 20 ? -2 : 0, x.backNumber(20, 100));
        }
    }

    private static void sixteenWhispers() {
        int[] sixteen = new int[16];
        for (int p = 0; p < 16; p++) {
            sixteen[p] = 1 << p;
        }
        WhisperPress x = press(EACH, sixteen);
        for (int week = 1; week <= 5; week++) {
            Due.due("16 WHISPERS in WEEK " + week, 16, x.weeks(1));
            Due.due("in its ISSUE", 16, x.backNumber(1, 100));
        }
        for (int i = 1; i <= 5; i++) {
            Due.due("from p, " + i + " weeks ago", 15, x.backNumber(i, 45));
        }
        Due.due("c is 15 at most", 16, press("e1(c<16);h10(1=1)", sixteen).tried(1, 0));
        Due.due("c is 15 at most, not 16", 15, press("e1(c<15);h10(1=1)", sixteen).tried(1, 0));
    }

    private static void twentyLines() {
        WhisperPress x = press(EACH, 0);
        String nineteen = "a=1;".repeat(19);
        Due.due("20 LINES", 20, Due.gossip(x, nineteen + "a=7"));
        Due.due("the last of them", 7, x.personIs(0, 3));
        Due.due("21 LINES", -4080, Due.gossip(x, nineteen + "a=8;a!"));
        Due.due("nothing is done", 7, x.personIs(0, 3));
    }

    private static void sixtyWords() {
        WhisperPress x = new WhisperPress();
        Due.due("60 WORDS", 60, Due.copy(x, "a_".repeat(59) + "b"));
        Due.due("the last of them", 1, x.type(1));
        Due.due("61 WORDS", -4120, Due.copy(x, "a_".repeat(60) + "c"));
        Due.due("60 WORDS by digits", 60, Due.copy(x, "9a_".repeat(6) + "6d"));
        Due.due("six of the last", 6, x.type(3));
        Due.due("61 WORDS by the last digit", -4018, Due.copy(x, "9a_".repeat(6) + "7d"));
        Due.due("59 and one", 60, Due.copy(x, "9a_".repeat(6) + "5d_e"));
        Due.due("59 and two", -4021, Due.copy(x, "9a_".repeat(6) + "5d_2e"));
    }

    private static void lettersOfAWord() {
        WhisperPress x = new WhisperPress();
        String twelve = "abcdefghijkl";
        for (int letters = 1; letters <= 12; letters++) {
            Due.due(letters + " letters", 1, Due.copy(x, twelve.substring(0, letters)));
            Due.due("the longest WORD", letters, x.copyIs(1));
        }
        Due.due("13 letters", -2012, Due.copy(x, twelve + "m"));
        Due.due("12 stay", 12, x.copyIs(1));
        Due.due("nine times 12", 9, Due.copy(x, "9" + twelve));
        Due.due("nine times 13", -2013, Due.copy(x, "9" + twelve + "m"));
    }

    private static void sixteenRules() {
        WhisperPress x = new WhisperPress();
        for (int rules = 1; rules <= 16; rules++) {
            Due.due(rules + " RULES", rules, Due.law(x, "r(1=1);".repeat(rules - 1) + "e1(1=1)"));
            Due.due("count(5)", rules, x.count(5));
        }
        Due.due("17 RULES", -4112, Due.law(x, "r(1=1);".repeat(16) + "e1(1=1)"));
        Due.due("16 stay", 16, x.count(5));
    }

    private static void allRulesAreAsked() {
        WhisperPress x = press("e1(1=2);".repeat(14) + "h10(1=1);e1(1=1)", 1, 0);
        Due.due("the sixteenth RULE holds", 1, x.tried(1, 0));
        x = press("r(1=2);".repeat(13) + "e1(k=1);h10(1=1);r(1=1)", 1, 0);
        x.person(2, 0, true);
        x.weeks(1);
        Due.due("the sixteenth RULE of all, an r", 1, x.personIs(2, 0));
    }

    private static void holds(String test, boolean due) {
        Due.due(test, due ? 1 : 0, press("h10(1=1);e1(" + test + ")", 1, 0).tried(1, 0));
    }

    /** As many PARTS and TESTS as THE LAW's 240 bytes have room for. */
    private static void longestTests() {
        holds("1=1&".repeat(55) + "1=1", true);
        holds("1=1&".repeat(55) + "1=2", false);
        holds("1=2|".repeat(55) + "1=1", true);
        holds("1=2|".repeat(55) + "1=2", false);
        holds("1=1&1=2|".repeat(27) + "1=1", true);
        holds("1=2|1=1&".repeat(27) + "1=2", false);
        holds("(1=1)&".repeat(36) + "!1=2", true);
        holds("!1=1|".repeat(44) + "(1=1)", true);
        holds("(1=1&1=1|1=2)&".repeat(15) + "1=1", true);
    }

    private static void longestValues() {
        holds("1+".repeat(110) + "1=111", true);
        holds("111=" + "1+".repeat(110) + "1", true);
        holds("110-" + "1-".repeat(109) + "1=0", true);
        holds("2*".repeat(31) + "1<0", true);
        holds("2*".repeat(32) + "1=0", true);
        holds("1*".repeat(110) + "7=7", true);
        holds("1+1*".repeat(54) + "1=55", true);
        holds("[1+1]*".repeat(30) + "[1+1]<0", true);
        holds("[1*[1+[1*[1+[1*1]]]]]+".repeat(9) + "1=28", true);
        holds("9-[9-[9-[9-[9-1*2]]]]=9-[9-[9-[9-[9-1*2]]]]", true);
        holds("(((1+[2+3*[4]]=15)))", true);
        holds("((((1+2*[3]*2+1=14))))", true);
    }

    /** Who is chosen of b and c: c alone if he would be whispered to more. */
    private static int chosen(String e) {
        WhisperPress x = press("e" + e + "(p=0);h10(1=1)", 1, 0, 0);
        return x.weeks(1) == 0 ? -1 : x.backNumber(1, 1);
    }

    private static void boundsOfE() {
        Due.due("9998 and 9999", 2, chosen("9997+k"));
        Due.due("9999 and 10000", 1, chosen("9998+k"));
        Due.due("10000 and 10001", 1, chosen("9999+k"));
        Due.due("99998 and 99999", 1, chosen("99997+k"));
        Due.due("9999 and 2147483647", 1, chosen("9999+[k-1]*[65536*32767+55536]"));
        Due.due("0 and 1", 2, chosen("k-1"));
        Due.due("1 and 0", 1, chosen("2-k"));
        Due.due("0 and 0", -1, chosen("0"));
        Due.due("-1 and 0", -1, chosen("k-2"));
        Due.due("1 and 1", 1, chosen("1"));
        Due.due("1 and -2147483648", 1, chosen("1+[k-1]*[65536*32768-1]"));
    }

    /** A SEED by which the first DRAW is so. */
    private static int seedFor(int first) {
        for (int seed = 0; seed < 65536; seed++) {
            if ((25173L * seed + 13849) % 65536 % 10 == first) {
                return seed;
            }
        }
        return -1;
    }

    private static void boundsOfH() {
        for (int draw = 0; draw <= 9; draw++) {
            for (int h = 0; h <= 12; h++) {
                WhisperPress x = press("e1(1=1);h" + h + "(1=1)", 1, 0);
                x.seed(seedFor(draw));
                Due.due("a DRAW of " + draw + " below " + h, draw < h ? 1 : 0, x.tried(1, 0));
            }
            WhisperPress x = press("e1(1=1);h0-1(1=1)", 1, 0);
            x.seed(seedFor(draw));
            Due.due("a DRAW of " + draw + " below -1", 0, x.tried(1, 0));
        }
    }

    private static int seedForSecond(int second) {
        for (int seed = 0; seed < 65536; seed++) {
            long first = (25173L * seed + 13849) % 65536;
            if ((25173L * first + 13849) % 65536 % 10 == second) {
                return seed;
            }
        }
        return -1;
    }

    private static void boundsOfM() {
        for (int draw = 0; draw <= 9; draw++) {
            for (int m = 0; m <= 12; m++) {
                WhisperPress x = press("e1(k=1);h10(1=1);m" + m + "(1=1)", 1, 0, 1);
                x.seed(seedForSecond(draw));
                Due.due("misprinted by " + draw + " below " + m, draw < m ? 1 : 0, x.tried(1, 1));
                x.weeks(1);
                Due.due("to whom by " + draw + " below " + m, draw < m ? 2 : 1, x.backNumber(1, 1));
            }
            WhisperPress x = press("e1(k=1);h10(1=1);m0-1(1=1)", 1, 0, 1);
            x.seed(seedForSecond(draw));
            Due.due("misprinted by " + draw + " below -1", 0, x.tried(1, 1));
        }
    }
}
