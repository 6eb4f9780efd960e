/** Promises 7, 8, 10, 17: both ends of each bound, one beyond each end, and what is not changed. */
public final class BoundsOfWeeksTest {
    private static final int[] NO_WEEKS = {0, -1, 101, Midst.LEAST, Midst.MOST};

    public static void main(String[] args) {
        weeksEnds();
        weeksBeyond();
        triedEnds();
        triedWhat();
        triedBeyond();
        allKnowEnds();
        allKnowCannot();
        allKnowBeyond();
        silentEnds();
        silentBeyond();
        trialsChangeNothing();
        Due.end();
    }

    /** a would whisper to b in the WEEK of which w is told alone. */
    private static WhisperPress whispersIn(int w) {
        WhisperPress x = new WhisperPress();
        x.person(0, 0x8001, false);
        x.person(1, 0x8000, false);
        Due.law(x, "e1(w=" + w + ");h10(1=1);m10(1=1)");
        return x;
    }

    private static void weeksEnds() {
        WhisperPress x = whispersIn(0);
        Due.due("weeks(1)", 1, x.weeks(1));
        Due.due("THE WEEK is 1", 1, x.count(0));
        x = whispersIn(99);
        Due.due("weeks(99)", 0, x.weeks(99));
        Due.due("the hundredth", 1, x.weeks(1));
        x = whispersIn(99);
        Due.due("weeks(100)", 1, x.weeks(100));
        Due.due("THE WEEK is 100", 100, x.count(0));
    }

    private static void weeksBeyond() {
        for (int n : NO_WEEKS) {
            Midst.isRefused("weeks(" + n + ")", x -> x.weeks(n));
        }
    }

    private static void triedEnds() {
        Due.due("tried(1, 0)", 1, whispersIn(0).tried(1, 0));
        Due.due("tried(1, 0), not yet", 0, whispersIn(1).tried(1, 0));
        Due.due("tried(99, 0)", 0, whispersIn(99).tried(99, 0));
        Due.due("tried(100, 0)", 1, whispersIn(99).tried(100, 0));
        Due.due("tried(100, 1)", 1, whispersIn(99).tried(100, 1));
        Due.due("tried(99, 1)", 0, whispersIn(99).tried(99, 1));
        Due.due("tried(100, 101)", 0x8001, whispersIn(99).tried(100, 101));
        Due.due("tried(99, 101)", 0x8000, whispersIn(99).tried(99, 101));
        Due.due("tried(100, 3)", 0x8001, whispersIn(99).tried(100, 3));
        Due.due("tried(99, 3)", 0x8000, whispersIn(99).tried(99, 3));
    }

    private static void triedWhat() {
        WhisperPress x = new WhisperPress();
        x.person(0, 1, false);
        x.person(15, 0x8000, false);
        Due.due("what 0", 0, x.tried(1, 0));
        Due.due("what 1", 0, x.tried(1, 1));
        Due.due("what 2", 0x8001, x.tried(1, 2));
        Due.due("what 3", 0, x.tried(1, 3));
        Due.due("what 100", 1, x.tried(1, 100));
        Due.due("what 115", 0x8000, x.tried(1, 115));
        for (int what = 101; what <= 114; what++) {
            Due.due("what " + what + ", not told", -1, x.tried(1, what));
        }
        for (int p = 0; p < 16; p++) {
            x.person(p, 65535, false);
        }
        Due.due("what 2, all", 65535, x.tried(1, 2));
        Due.due("what 3, all", 65535, x.tried(1, 3));
    }

    private static void triedBeyond() {
        for (int n : NO_WEEKS) {
            for (int what : new int[] {0, 3, 100}) {
                Midst.isRefused("tried(" + n + ", " + what + ")", x -> x.tried(n, what));
            }
        }
        for (int what : new int[] {-1, 4, 99, 102, 116, 131, 132, Midst.LEAST, Midst.LEAST + 100, Midst.MOST}) {
            Midst.isRefused("tried(1, " + what + ")", x -> x.tried(1, what));
        }
    }

    private static void allKnowEnds() {
        Due.due("behind 1 of 1", 1, whispersIn(0).allKnow(0, 1));
        Due.due("behind 1 of 100", 1, whispersIn(0).allKnow(0, 100));
        Due.due("behind 100 of 100", 100, whispersIn(99).allKnow(0, 100));
        Due.due("not in 99", -2, whispersIn(99).allKnow(0, 99));
        Due.due("they do, SECRET 15", 0, whispersIn(0).allKnow(15, 1));
        Due.due("they do, of 100", 0, whispersIn(0).allKnow(15, 100));
        WhisperPress x = whispersIn(0);
        x.person(0, 0x8000, false);
        x.person(1, 0x0000, false);
        Due.due("SECRET 15 behind 1", 1, x.allKnow(15, 1));
        Due.due("one alone, who KNOWS it", 0, one(1).allKnow(0, 1));
    }

    private static WhisperPress one(int secrets) {
        WhisperPress x = new WhisperPress();
        x.person(9, secrets, true);
        return x;
    }

    private static void allKnowCannot() {
        Due.due("not in 1", -2, whispersIn(1).allKnow(0, 1));
        Due.due("none KNOWS it", -2, whispersIn(0).allKnow(3, 100));
        Due.due("nobody is told", -2, new WhisperPress().allKnow(0, 1));
        Due.due("nobody is told, 100", -2, new WhisperPress().allKnow(15, 100));
        Due.due("one alone, who does not KNOW it", -2, one(1).allKnow(1, 1));
        Due.due("nobody is told, no such SECRET", -1, new WhisperPress().allKnow(16, 1));
        Due.due("nobody is told, no such n", -1, new WhisperPress().allKnow(0, 101));
    }

    private static void allKnowBeyond() {
        for (int n : NO_WEEKS) {
            Midst.isRefused("allKnow(0, " + n + ")", x -> x.allKnow(0, n));
            Due.due("allKnow(15, " + n + ") though they do", -1, whispersIn(0).allKnow(15, n));
        }
        for (int secret : new int[] {-1, 16, 32, Midst.LEAST, Midst.MOST}) {
            Midst.isRefused("allKnow(" + secret + ", 1)", x -> x.allKnow(secret, 1));
        }
    }

    private static void silentEnds() {
        Due.due("silent(1), one", 1, whispersIn(1).silent(1));
        Due.due("silent(1), none", 0, whispersIn(0).silent(1));
        Due.due("silent(2), the first is", 1, whispersIn(1).silent(2));
        Due.due("silent(2), the last is", 1, whispersIn(0).silent(2));
        Due.due("silent(100), all", 100, new WhisperPress().silent(100));
        Due.due("silent(100), all but the last", 99, whispersIn(99).silent(100));
        Due.due("silent(100), all but the first", 99, whispersIn(0).silent(100));
        Due.due("silent(100), the longer row is first", 60, whispersIn(60).silent(100));
        Due.due("silent(100), the longer row is last", 60, whispersIn(39).silent(100));
    }

    private static void silentBeyond() {
        for (int n : NO_WEEKS) {
            Midst.isRefused("silent(" + n + ")", x -> x.silent(n));
        }
    }

    /** "TRIED are n WEEKS by the DRAWS that will come (nothing is changed)." */
    private static void trialsChangeNothing() {
        WhisperPress as = Midst.press(0);
        for (int n : new int[] {1, 30, 100}) {
            for (int what : new int[] {0, 1, 2, 3, 104}) {
                long due = as.tried(n, what);
                Midst.changesNothing("tried(" + n + ", " + what + ")", 20, due, x -> x.tried(n, what));
            }
            long known = as.allKnow(7, n);
            Midst.changesNothing("allKnow(7, " + n + ")", 20, known, x -> x.allKnow(7, n));
            long row = as.silent(n);
            Midst.changesNothing("silent(" + n + ")", 20, row, x -> x.silent(n));
        }
        int will = as.tried(40, 0);
        Due.due("what is tried comes", will, as.weeks(40));
    }
}
