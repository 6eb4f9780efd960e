/** Terms: what goes round. */
public final class RoundTest {
    public static void main(String[] args) {
        misprintsGoRound();
        himselfIsLeftOut();
        noneButThatOne();
        nextOfSixteen();
        drawsGoRound();
        twoDraws();
        weekModulo100();
        weekModulo100Late();
        sumsGoRound();
        productsGoRound();
        quotientsGoRound();
        signsOfRests();
        issuesGoRound();
        Due.end();
    }

    /** a to p of which those are told; from KNOWS one SECRET, all is misprinted, to is chosen. */
    private static WhisperPress misprinting(int told, int from, int to) {
        WhisperPress x = new WhisperPress();
        for (int p = 0; p < 16; p++) {
            if ((told >> p & 1) == 1) {
                x.person(p, p == from ? 1 : 0, false);
            }
        }
        Due.law(x, "e1(p=" + from + "&k=" + to + ");h10(1=1);m10(1=1)");
        return x;
    }

    private static void misprinted(int told, int from, int to, int due) {
        String name = Integer.toBinaryString(told) + ", " + from + " to " + to;
        WhisperPress x = misprinting(told, from, to);
        Due.due(name + ": misprints", 1, x.tried(1, 1));
        Due.due(name + ": printed", 1, x.weeks(1));
        Due.due(name + ": from", from, x.backNumber(1, 0));
        Due.due(name + ": to whom as printed", due, x.backNumber(1, 1));
        Due.due(name + ": that one KNOWS it", 1, x.personIs(to, 0));
        if (due != to) {
            Due.due(name + ": the other one does not", 0, x.personIs(due, 0));
        }
    }

    private static void misprintsGoRound() {
        misprinted(0b1000_0000_0000_0111, 1, 15, 0);
        misprinted(0b1000_0000_0000_0111, 1, 2, 15);
        misprinted(0b1000_0000_0000_1110, 3, 15, 1);
        misprinted(0b0000_0000_0000_0111, 0, 1, 2);
        misprinted(0b0001_0000_0001_0010, 4, 12, 1);
    }

    private static void himselfIsLeftOut() {
        misprinted(0b1000_0000_0000_0011, 0, 15, 1);
        misprinted(0b0000_0000_0000_0111, 0, 2, 1);
        misprinted(0b0000_0000_0000_0111, 1, 0, 2);
        misprinted(0b0000_0000_0000_0111, 2, 1, 0);
        misprinted(0b1100_0000_0000_0001, 15, 14, 0);
    }

    private static void noneButThatOne() {
        misprinted(0b0000_0000_0000_0011, 0, 1, 1);
        misprinted(0b0000_0000_0000_0011, 1, 0, 0);
        misprinted(0b1000_0000_0000_0001, 15, 0, 0);
        misprinted(0b1000_0000_0000_0001, 0, 15, 15);
        WhisperPress x = misprinting(3, 0, 1);
        x.weeks(1);
        Due.due("as printed: most", 1, x.mostPrinted(0));
        Due.due("as printed: reached", 2, x.reached(0));
    }

    private static void nextOfSixteen() {
        for (int from = 0; from < 16; from++) {
            for (int to = 0; to < 16; to++) {
                if (from != to) {
                    int next = (to + 1) % 16;
                    misprinted(65535, from, to, next == from ? (from + 1) % 16 : next);
                }
            }
        }
    }

    private static int next(int x) {
        return (int) ((25173L * x + 13849L) % 65536L);
    }

    /** One who is chosen and does not whisper: one DRAW a WEEK. */
    private static void drawsGoRound() {
        for (int seed : new int[] {0, 1, 2, 9, 10, 32767, 32768, 40000, 65534, 65535}) {
            WhisperPress x = new WhisperPress();
            x.person(0, 1, false);
            x.person(1, 0, false);
            Due.law(x, "e1(1=1)");
            x.seed(seed);
            int due = seed;
            for (int week = 0; week < 40; week++) {
                x.weeks(1);
                due = next(due);
                Due.due("X behind WEEK " + week + " from " + seed, due, x.count(7));
            }
            x.weeks(100);
            for (int i = 0; i < 100; i++) {
                due = next(due);
            }
            Due.due("X behind 100 more from " + seed, due, x.count(7));
        }
    }

    private static void twoDraws() {
        WhisperPress x = new WhisperPress();
        x.person(0, 1, false);
        x.person(1, 0, false);
        Due.law(x, "e1(1=1);h10(1=1)");
        x.seed(65535);
        x.weeks(1);
        Due.due("two DRAWS if he whispers", next(next(65535)), x.count(7));
        x.weeks(1);
        Due.due("none if there is nobody to choose", next(next(65535)), x.count(7));
    }

    private static WhisperPress counting(String test) {
        WhisperPress x = new WhisperPress();
        x.person(0, 65535, false);
        x.person(1, 0, false);
        Due.due("no FAULT in " + test, 2, Due.law(x, "e1(" + test + ");h10(1=1)"));
        return x;
    }

    private static void weekModulo100() {
        WhisperPress x = counting("w=0|w=99");
        Due.due("WEEK 0", 1, x.weeks(1));
        Due.due("WEEKS 1 to 98", 0, x.weeks(98));
        Due.due("WEEK 99", 1, x.weeks(1));
        Due.due("WEEK 100", 1, x.weeks(1));
        Due.due("WEEKS 101 to 198", 0, x.weeks(98));
        Due.due("WEEK 199", 1, x.weeks(1));
        Due.due("WEEK 200", 1, x.weeks(1));
        x = counting("w>99");
        Due.due("w is 99 at most", 0, x.weeks(100));
        Due.due("w is 99 at most, later", 0, x.weeks(100));
    }

    private static void weekModulo100Late() {
        WhisperPress x = counting("w=98");
        x.person(0, 0, false);
        for (int i = 0; i < 99; i++) {
            x.weeks(100);
        }
        x.weeks(98);
        Due.due("THE WEEK", 9998, x.count(0));
        x.person(0, 1, false);
        Due.due("w is 98 in WEEK 9998", 1, x.weeks(1));
    }

    private static void holds(String test) {
        Due.due(test, 1, counting(test).tried(1, 0));
        Due.due("!(" + test + ")", 0, counting("!(" + test + ")").tried(1, 0));
    }

    /** 65536*32767+65535 is 2147483647, the most that 32 bits have. */
    private static void sumsGoRound() {
        holds("65536*32767+65535>65536*32767+65534");
        holds("65536*32767+65535+1<0");
        holds("65536*32767+65536=65536*32768");
        holds("0-65536*32767-65535<0");
        holds("0-65536*32767-65535-1<0");
        holds("0-65536*32767-65535-2>0");
        holds("65536*32768-1=65536*32767+65535");
        holds("[65536*32767+65535]+[65536*32767+65535]=0-2");
        holds("0-65536*32768=65536*32768");
        holds("65536*32768<65536*32767");
    }

    private static void productsGoRound() {
        holds("65536*65536=0");
        holds("65536*65535=0-65536");
        holds("65536*32768<0");
        holds("99999*99999=14098*[99999+1]+65409");
        holds("99999*99999%10=9");
        holds("[65536*32767+65535]*2=0-2");
        holds("[65536*32768]*[0-1]=65536*32768");
    }

    private static void quotientsGoRound() {
        holds("[65536*32768]/[0-1]=65536*32768");
        holds("[65536*32768]%[0-1]=0");
        holds("[65536*32768]/2=0-65536*16384");
        holds("[65536*32767+65535]/[0-1]=0-65536*32767-65535");
    }

    /** "All is reckoned with 32 bits, as the machine does": towards 0. */
    private static void signsOfRests() {
        holds("7/2=3");
        holds("[0-7]/2=0-3");
        holds("7/[0-2]=0-3");
        holds("[0-7]/[0-2]=3");
        holds("7%2=1");
        holds("[0-7]%2=0-1");
        holds("7%[0-2]=1");
        holds("[0-7]%[0-2]=0-1");
        holds("0/5=0");
        holds("0%5=0");
    }

    /** The SECRETS printed tell which ISSUE it is, far beyond the first twenty. */
    private static void issuesGoRound() {
        WhisperPress x = new WhisperPress();
        Due.law(x, "e1(p=0);h10(1=1)");
        for (int week = 0; week < 63; week++) {
            x.person(0, 1 << week % 16, false);
            x.person(1, 0, false);
            x.weeks(1);
            Due.due("the last one of WEEK " + week, week % 16, x.backNumber(1, 2));
            if (week >= 19) {
                Due.due("the oldest of WEEK " + week, (week - 19) % 16, x.backNumber(20, 2));
            }
        }
        for (int i = 1; i <= 20; i++) {
            Due.due(i + " weeks ago", (63 - i) % 16, x.backNumber(i, 2));
        }
    }
}
