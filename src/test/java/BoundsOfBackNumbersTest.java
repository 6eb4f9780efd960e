/** Promises 14, 15, 16, 18, 19: both ends of each bound, one beyond each end, -2 and -4. */
public final class BoundsOfBackNumbersTest {
    public static void main(String[] args) {
        backNumberEnds();
        sixteenWhispers();
        backNumberCannot();
        backNumberBeyond();
        blackmailEnds();
        blackmailBeyond();
        mostPrintedEnds();
        pairEnds();
        reachedEnds();
        whatBeyond();
        questionsChangeNothing();
        Due.end();
    }

    /** Each WEEK one WHISPER of a to b: SECRET 0 first, then 1, and so on. */
    private static WhisperPress inTurn(int weeks) {
        WhisperPress x = new WhisperPress();
        x.person(0, 0, false);
        x.person(1, 0, false);
        Due.law(x, "e1(p=0);h10(1=1)");
        for (int week = 0; week < weeks; week++) {
            x.person(0, 1 << week % 16, false);
            x.person(1, 0, false);
            Due.due("WHISPERS of WEEK " + week, 1, x.weeks(1));
        }
        return x;
    }

    /** Sixteen who each KNOW one SECRET: in one WEEK each whispers to the next one. */
    private static WhisperPress sixteen() {
        WhisperPress x = new WhisperPress();
        for (int p = 0; p < 16; p++) {
            x.person(p, 1 << p, false);
        }
        Due.law(x, "e1(k=[p+1]%16);h10(1=1)");
        Due.due("16 WHISPERS", 16, x.weeks(1));
        return x;
    }

    private static void backNumberEnds() {
        WhisperPress x = inTurn(20);
        Due.due("backNumber(1, 2)", 19 % 16, x.backNumber(1, 2));
        Due.due("backNumber(20, 2)", 0, x.backNumber(20, 2));
        Due.due("backNumber(20, 100)", 1, x.backNumber(20, 100));
        x = inTurn(21);
        Due.due("one is gone: backNumber(20, 2)", 1, x.backNumber(20, 2));
        Due.due("one is gone: backNumber(1, 2)", 20 % 16, x.backNumber(1, 2));
    }

    private static void sixteenWhispers() {
        WhisperPress x = sixteen();
        Due.due("how many", 16, x.backNumber(1, 100));
        for (int j = 0; j < 16; j++) {
            Due.due("from whom " + j, j, x.backNumber(1, 3 * j));
            Due.due("to whom " + j, (j + 1) % 16, x.backNumber(1, 3 * j + 1));
            Due.due("which SECRET " + j, j == 15 ? 15 : 0, x.backNumber(1, 3 * j + 2));
        }
        Due.due("what 48", -1, x.backNumber(1, 48));
    }

    private static void backNumberCannot() {
        WhisperPress x = inTurn(1);
        Due.due("-4: the second WHISPER", -4, x.backNumber(1, 3));
        Due.due("-4: the sixteenth WHISPER", -4, x.backNumber(1, 47));
        Due.due("the first one is there", 0, x.backNumber(1, 2));
        Due.due("-2: two weeks ago", -2, x.backNumber(2, 0));
        Due.due("-2: two weeks ago, how many", -2, x.backNumber(2, 100));
        Due.due("-2: twenty weeks ago", -2, x.backNumber(20, 47));
        Due.due("NONE goes ahead of -2", -1, x.backNumber(20, 48));
        Due.due("NONE goes ahead of -2, i", -1, x.backNumber(21, 0));
        x.weeks(1);
        Due.due("nothing is printed in it", 0, x.backNumber(1, 100));
        Due.due("-4: nothing is printed in it", -4, x.backNumber(1, 0));
        x = inTurn(19);
        Due.due("-2 of 19", -2, x.backNumber(20, 100));
        Due.due("the oldest of 19", 0, x.backNumber(19, 2));
    }

    private static void backNumberBeyond() {
        for (int i : new int[] {0, -1, 21, Midst.LEAST, Midst.MOST}) {
            Midst.isRefused("backNumber(" + i + ", 0)", x -> x.backNumber(i, 0));
            Midst.isRefused("backNumber(" + i + ", 100)", x -> x.backNumber(i, 100));
        }
        for (int what : new int[] {-1, -3, 48, 49, 50, 99, 101, Midst.LEAST, Midst.MOST}) {
            Midst.isRefused("backNumber(1, " + what + ")", x -> x.backNumber(1, what));
        }
        Midst.changesNothing("backNumber(6, 0)", 20, -2, x -> x.backNumber(6, 0));
        Midst.changesNothing("backNumber(1, 47)", 20, -4, x -> x.backNumber(1, 47));
    }

    private static void blackmailEnds() {
        WhisperPress x = inTurn(16);
        Due.due("none needed", 0, x.blackmail(0, 0));
        Due.due("none needed: no oldest", 0, x.blackmail(0, 1));
        Due.due("SECRET 15 is in the last one", 1, x.blackmail(0x8000, 1));
        Due.due("SECRET 0 is in the oldest", 16, x.blackmail(1, 1));
        Due.due("all sixteen", 16, x.blackmail(65535, 0));
        Due.due("all sixteen: the oldest", 16, x.blackmail(65535, 1));
        x = inTurn(20);
        Due.due("SECRET 4 is sixteen weeks old by now", 16, x.blackmail(16, 1));
        Due.due("SECRET 3 was printed again", 1, x.blackmail(8, 1));
        x = inTurn(15);
        Due.due("all but one", 15, x.blackmail(0x7fff, 0));
        Due.due("not all are printed", -2, x.blackmail(65535, 0));
        Due.due("not all are printed: the oldest", -2, x.blackmail(0x8000, 1));
        x = inTurn(1);
        for (int i = 0; i < 19; i++) {
            x.weeks(1);
        }
        Due.due("in the oldest of twenty", 20, x.blackmail(1, 1));
        x.weeks(1);
        Due.due("in none of twenty", -2, x.blackmail(1, 1));
    }

    private static void blackmailBeyond() {
        for (int secrets : new int[] {-1, 65536, 65537, Midst.LEAST, Midst.MOST}) {
            Midst.isRefused("blackmail(" + secrets + ", 0)", x -> x.blackmail(secrets, 0));
            Midst.isRefused("blackmail(" + secrets + ", 1)", x -> x.blackmail(secrets, 1));
        }
        for (int what : new int[] {-1, 2, Midst.LEAST, Midst.MOST}) {
            Midst.isRefused("blackmail(0, " + what + ")", x -> x.blackmail(0, what));
            Midst.isRefused("blackmail(65535, " + what + ")", x -> x.blackmail(65535, what));
        }
        Midst.changesNothing("blackmail of all", 20, -2, x -> x.blackmail(65535, 0));
    }

    private static void mostPrintedEnds() {
        WhisperPress x = new WhisperPress();
        x.person(0, 1, false);
        x.person(15, 0, false);
        Due.law(x, "e1(1=1);h10(1=1)");
        x.weeks(1);
        Due.due("p", 15, x.mostPrinted(0));
        Due.due("once", 1, x.mostPrinted(1));
        x.person(0, 0, false);
        x.person(15, 3, false);
        x.weeks(2);
        Due.due("a", 0, x.mostPrinted(0));
        Due.due("twice", 2, x.mostPrinted(1));
        x = inTurn(20);
        Due.due("twenty times", 20, x.mostPrinted(1));
        x = inTurn(21);
        Due.due("the last twenty alone", 20, x.mostPrinted(1));
    }

    private static void pairEnds() {
        WhisperPress x = new WhisperPress();
        x.person(15, 1, false);
        x.person(14, 0, false);
        Due.law(x, "e1(1=1);h10(1=1)");
        x.weeks(1);
        Due.due("from p", 15, x.pair(0));
        Due.due("to o", 14, x.pair(1));
        Due.due("once", 1, x.pair(2));
        x = inTurn(21);
        Due.due("from a", 0, x.pair(0));
        Due.due("to b", 1, x.pair(1));
        Due.due("twenty times", 20, x.pair(2));
    }

    private static void reachedEnds() {
        WhisperPress x = sixteen();
        Due.due("all, and it comes back to a", 65535, x.reached(0));
        Due.due("all, and it comes back to p", 65535, x.reached(15));
        x = inTurn(1);
        Due.due("b", 2, x.reached(0));
        Due.due("none", 0, x.reached(1));
        Due.due("none, not told", 0, x.reached(15));
        for (int i = 0; i < 20; i++) {
            x.weeks(1);
        }
        Due.due("not by what is no BACK NUMBER any more", 0, x.reached(0));
    }

    private static void whatBeyond() {
        for (int what : new int[] {-1, 2, Midst.LEAST, Midst.MOST}) {
            Midst.isRefused("mostPrinted(" + what + ")", x -> x.mostPrinted(what));
        }
        for (int what : new int[] {-1, 3, Midst.LEAST, Midst.MOST}) {
            Midst.isRefused("pair(" + what + ")", x -> x.pair(what));
        }
        for (int p : new int[] {-1, 16, 32, Midst.LEAST, Midst.MOST}) {
            Midst.isRefused("reached(" + p + ")", x -> x.reached(p));
        }
    }

    private static void questionsChangeNothing() {
        WhisperPress as = Midst.press(0);
        Midst.changesNothing("mostPrinted(0)", 20, as.mostPrinted(0), x -> x.mostPrinted(0));
        Midst.changesNothing("pair(0)", 20, as.pair(0), x -> x.pair(0));
        Midst.changesNothing("reached(0)", 20, as.reached(0), x -> x.reached(0));
        Midst.changesNothing("enough(1)", 20, as.enough(1), x -> x.enough(1));
        Midst.changesNothing("blackmail(1, 1)", 20, as.blackmail(1, 1), x -> x.blackmail(1, 1));
        Midst.changesNothing("alone()", 20, as.alone(), x -> x.alone());
        Midst.changesNothing("set(20, 0)", 20, as.set(20, 0), x -> x.set(20, 0));
    }
}
