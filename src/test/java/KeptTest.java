/** Promises 31 to 35: THE SEED, KEPT and UNDONE, CHECK, count. */
public final class KeptTest {
    public static void main(String[] args) {
        seed();
        keeps();
        keptWhispers();
        whatIsNotKept();
        check();
        count();
        Due.end();
    }

    private static void seed() {
        WhisperPress x = new WhisperPress();
        Due.due("seed(-1)", false, x.seed(-1));
        Due.due("seed(65536)", false, x.seed(65536));
        Due.due("X stays", 1, x.count(7));
        Due.due("seed(0)", true, x.seed(0));
        Due.due("X", 0, x.count(7));
        Due.due("seed(65535)", true, x.seed(65535));
        Due.due("X then", 65535, x.count(7));
    }

    private static void keeps() {
        WhisperPress x = new WhisperPress();
        Due.due("none was KEPT", false, x.undo());
        x.person(0, 3, false);
        x.person(1, 4, true);
        Due.law(x, "e1(1=1);h10(1=1)");
        Due.due("weeks(1)", 2, x.weeks(1));
        int drawn = x.count(7);
        Due.due("keep()", 1, x.keep());
        x.weeks(30);
        x.person(2, 8, true);
        Due.gossip(x, "a=77;b?");
        x.seed(5);
        for (int again = 0; again < 2; again++) {
            Due.due("undo()", true, x.undo());
            Due.due("THE WEEK", 1, x.count(0));
            Due.due("told", 3, x.count(1));
            Due.due("readers", 2, x.count(2));
            Due.due("BACK NUMBERS", 1, x.count(3));
            Due.due("X", drawn, x.count(7));
            Due.due("BREATH", 2, x.count(8));
            Due.due("a's SECRETS", 7, x.personIs(0, 0));
            Due.due("the WHISPERS", 2, x.backNumber(1, 100));
            Due.due("the last WHISPER", 2, x.backNumber(1, 5));
            x.weeks(21);
            x.person(0, 0, true);
            x.person(1, 0, true);
        }
        Due.due("keep() again", 22, x.keep());
        x.weeks(1);
        x.undo();
        Due.due("as they were KEPT last", 22, x.count(0));
    }

    /** ISSUES that are printed later stand in place of the KEPT ones till they are UNDONE. */
    private static void keptWhispers() {
        WhisperPress x = new WhisperPress();
        x.person(0, 0, false);
        x.person(1, 0, false);
        Due.law(x, "e1(1=1);h10(1=1)");
        for (int week = 0; week < 43; week++) {
            if (week == 20) {
                x.keep();
            }
            x.person(0, 1 << week % 16, false);
            x.person(1, 0, false);
            Due.due("week " + week, 1, x.weeks(1));
            Due.due("its SECRET", week % 16, x.backNumber(1, 2));
        }
        Due.due("later ones", 42 % 16, x.backNumber(1, 2));
        x.undo();
        for (int i = 1; i <= 20; i++) {
            Due.due("of " + i + " weeks ago", (20 - i) % 16, x.backNumber(i, 2));
        }
        x.person(0, 1 << 9, false);
        x.person(1, 0, false);
        x.tried(30, 0);
        Due.due("what is tried prints nothing", 0, x.backNumber(20, 2));
    }

    private static void whatIsNotKept() {
        WhisperPress x = new WhisperPress();
        x.keep();
        Due.law(x, "r(1=1)");
        Due.copy(x, "ab_c");
        Due.feed(x, 1, 2, 3);
        x.undo();
        Due.due("RULES", 1, x.count(5));
        Due.due("WORDS", 2, x.count(4));
        Due.due("bytes", 20, x.count(6));
    }

    private static int checked(WhisperPress x, int n, int... bytes) {
        Due.feed(x, bytes);
        int answer = x.check(n);
        Due.due("the tape is empty", 0, x.count(6));
        return answer;
    }

    private static void check() {
        WhisperPress x = new WhisperPress();
        x.person(0, 0xf, false);
        x.person(2, 0, false);
        Due.due("right", -1, checked(x, 3, 4, 255, 0));
        Due.due("the first n alone", -1, checked(x, 2, 4, 255, 9));
        Due.due("the first that is not so", 0, checked(x, 3, 3, 0, 9));
        Due.due("one who is not told", 1, checked(x, 3, 4, 0, 0));
        Due.due("one who is", 2, checked(x, 3, 4, 255, 255));
        Due.due("check(0)", -1, checked(x, 0, 9));
        Due.due("all", -1, checked(x, 16, 4, 255, 0, 255, 255, 255, 255, 255, 255, 255, 255, 255, 255, 255, 255, 255));
        Due.due("check(1), no tape", -2, x.check(1));
        Due.due("check(0), no tape", -1, x.check(0));
        Due.feed(x, 4);
        Due.due("check(-1)", -2, x.check(-1));
        Due.due("check(17)", -2, x.check(17));
        Due.due("the tape stays", 20, x.count(6));
    }

    private static void count() {
        WhisperPress x = new WhisperPress();
        x.person(4, 1, true);
        x.person(6, 2, false);
        Due.gossip(x, "e=30;g=12");
        Due.copy(x, "3a_b");
        Due.law(x, "r(1=1);r(1=2)");
        x.weeks(25);
        Due.feed(x, 1);
        int[] due = {25, 0x50, 0x10, 20, 4, 2, 20, 1, 42};
        for (int what = 0; what < due.length; what++) {
            Due.due("count(" + what + ")", due[what], x.count(what));
        }
        Due.due("count(9)", -1, x.count(9));
        Due.due("count(-1)", -1, x.count(-1));
        Due.due("count(max)", -1, x.count(Integer.MAX_VALUE));
    }
}
