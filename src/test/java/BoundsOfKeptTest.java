import java.util.List;

/** Promises 31 to 35: both ends of each bound, one beyond each end, nothing KEPT, and what stays. */
public final class BoundsOfKeptTest {
    public static void main(String[] args) {
        seedEnds();
        seedBeyond();
        keepEnds();
        noneKept();
        keptChangesNothing();
        undoneAgain();
        checkEnds();
        checkEach();
        checkBeyond();
        countEnds();
        countBeyond();
        Due.end();
    }

    private static void seedEnds() {
        for (int seed : new int[] {0, 1, 65535}) {
            WhisperPress x = new WhisperPress();
            Due.due("seed(" + seed + ")", true, x.seed(seed));
            Due.due("X is " + seed, seed, x.count(7));
        }
    }

    private static void seedBeyond() {
        for (int seed : new int[] {-1, 65536, Midst.LEAST, Midst.MOST}) {
            Midst.changesNothing("seed(" + seed + ")", 20, 0, x -> Midst.bit(x.seed(seed)));
        }
    }

    private static void keepEnds() {
        WhisperPress x = new WhisperPress();
        Due.due("keep() of a new object", 0, x.keep());
        x.person(0, 1, true);
        x.weeks(100);
        Due.due("undo() to a new object", true, x.undo());
        Due.due("THE WEEK", 0, x.count(0));
        Due.due("nobody is told", 0, x.count(1));
        Due.due("no BACK NUMBERS", 0, x.count(3));
        x.weeks(100);
        Due.due("keep()", 100, x.keep());
    }

    private static void noneKept() {
        WhisperPress x = new WhisperPress();
        x.person(0, 5, true);
        x.weeks(3);
        x.seed(77);
        x.feed(1, 2, 3, 4, 5);
        Due.due("none was KEPT", false, x.undo());
        Due.due("still none was", false, x.undo());
        int[] due = {3, 1, 1, 3, 0, 0, 20, 77, 0};
        for (int what = 0; what <= 8; what++) {
            Due.due("count(" + what + ") stays", due[what], x.count(what));
        }
        Due.due("SECRETS stay", 5, x.personIs(0, 0));
    }

    /** To keep changes but what is KEPT; to go back at once changes nothing. */
    private static void keptChangesNothing() {
        WhisperPress x = Midst.press(20);
        Due.due("keep()", 5, x.keep());
        Due.due("undo()", true, x.undo());
        WhisperPress y = Midst.press(20);
        for (int what = 0; what <= 8; what++) {
            Due.due("count(" + what + ")", y.count(what), x.count(what));
        }
        for (int p = 0; p < 16; p++) {
            for (int what = 0; what <= 3; what++) {
                Due.due("personIs(" + p + ", " + what + ")", y.personIs(p, what), x.personIs(p, what));
            }
        }
        Due.due("as it will be", y.weeks(50), x.weeks(50));
        Due.due("X then", y.count(7), x.count(7));
    }

    /** What was KEPT is not used up, and is no longer changed by what comes later. */
    private static void undoneAgain() {
        WhisperPress x = Midst.press(0);
        x.undo();
        List<Long> first = Midst.answers(x);
        x = Midst.press(0);
        x.undo();
        x.weeks(30);
        x.person(0, 65535, true);
        Due.gossip(x, "b=9999");
        x.seed(3);
        x.undo();
        Midst.same("UNDONE again", first, Midst.answers(x));
    }

    private static int[] sixteen(int with) {
        int[] bytes = new int[17];
        java.util.Arrays.fill(bytes, with);
        return bytes;
    }

    private static void checkEnds() {
        WhisperPress x = new WhisperPress();
        Due.due("check(0), no tape", -1, x.check(0));
        Due.feed(x, sixteen(9));
        Due.due("check(0), nothing is asked", -1, x.check(0));
        Due.due("empty then", 0, x.count(6));
        Due.feed(x, sixteen(255));
        Due.due("check(16), nobody is told", -1, x.check(16));
        Due.due("empty then, too", 0, x.count(6));
        Due.feed(x, sixteen(0));
        Due.due("check(1), 0 is not 255", 0, x.check(1));
        for (int p = 0; p < 16; p++) {
            x.person(p, 65535, false);
        }
        Due.feed(x, sixteen(16));
        Due.due("check(16), all KNOW all", -1, x.check(16));
        Due.feed(x, sixteen(255));
        Due.due("255 of a told one", 0, x.check(16));
        for (int p = 0; p < 16; p++) {
            x.person(p, 0, false);
        }
        Due.feed(x, sixteen(0));
        Due.due("check(16), none KNOWS any", -1, x.check(16));
    }

    private static void checkEach() {
        for (int wrong = 0; wrong < 16; wrong++) {
            WhisperPress x = new WhisperPress();
            int[] bytes = sixteen(255);
            for (int p = 0; p < 16; p += 2) {
                x.person(p, (1 << p) - 1, false);
                bytes[p] = p;
            }
            bytes[wrong]++;
            bytes[wrong] &= 255;
            bytes[15] ^= 1;
            Due.feed(x, bytes);
            Due.due("the first that is not so: " + wrong, wrong, x.check(wrong == 15 ? 16 : wrong + 1));
            Due.feed(x, bytes);
            Due.due("not asked: " + wrong, -1, x.check(wrong));
            Due.feed(x, bytes);
            Due.due("of two the first: " + wrong, wrong, x.check(16));
            Due.due("empty then", 0, x.count(6));
        }
    }

    private static void checkBeyond() {
        for (int n : new int[] {-1, 17, Midst.LEAST, Midst.MOST}) {
            Midst.changesNothing("check(" + n + ")", 260, -2, x -> x.check(n));
        }
        Midst.changesNothing("check(1) of none", 0, -2, x -> x.check(1));
        Midst.changesNothing("check(16) of none", 0, -2, x -> x.check(16));
        Midst.emptiesTapeOnly("check(1), wrong", new int[] {99}, 0, x -> x.check(1));
        Midst.emptiesTapeOnly("check(3), right", new int[] {Midst.press(0).personIs(0, 1),
            Midst.press(0).personIs(1, 1), 255}, -1, x -> x.check(3));
    }

    private static void countEnds() {
        WhisperPress x = new WhisperPress();
        for (int p = 0; p < 16; p++) {
            x.person(p, 65535, true);
            Due.gossip(x, (char) ('a' + p) + "=9999");
        }
        x.weeks(20);
        Due.copy(x, "9a_".repeat(6) + "6a");
        Due.law(x, "r(1=1);".repeat(15) + "r(1=1)");
        x.seed(65535);
        for (int i = 0; i < 13; i++) {
            x.feed(0, 0, 0, 0, 0);
        }
        int[] due = {20, 65535, 65535, 20, 60, 16, 260, 65535, 16 * 9999};
        for (int what = 0; what <= 8; what++) {
            Due.due("count(" + what + "), the most", due[what], x.count(what));
        }
        x = new WhisperPress();
        x.seed(0);
        for (int what = 0; what <= 8; what++) {
            Due.due("count(" + what + "), the least", 0, x.count(what));
        }
    }

    private static void countBeyond() {
        for (int what : new int[] {-1, 9, Midst.LEAST, Midst.MOST}) {
            Midst.isRefused("count(" + what + ")", x -> x.count(what));
        }
    }
}
