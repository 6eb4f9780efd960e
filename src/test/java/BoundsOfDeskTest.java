import java.util.Arrays;

/** Promises 25 to 30: both ends of each bound, one beyond each end, -2 and -3, and what stays of the tape. */
public final class BoundsOfDeskTest {
    public static void main(String[] args) {
        nunsEnds();
        nunsBeyond();
        spaceEnds();
        spaceCannot();
        spaceBeyond();
        styleEnds();
        styleBeyond();
        namesEnds();
        namesBeyond();
        dutyEnds();
        dutyOfAll();
        dutyCannot();
        dutyBeyond();
        handsEnds();
        handsCannot();
        handsBeyond();
        Due.end();
    }

    private static WhisperPress press(int... bytes) {
        WhisperPress x = new WhisperPress();
        Due.feed(x, bytes);
        return x;
    }

    private static int[] filled(int many, int with) {
        int[] bytes = new int[many];
        Arrays.fill(bytes, with);
        return bytes;
    }

    private static void nunsEnds() {
        Due.due("one page by 2", 255, press(255, 9).nuns(1, 2));
        Due.due("one page by 3", 255, press(255, 9).nuns(1, 3));
        Due.due("one page of no work", 0, press(0, 9).nuns(1, 2));
        Due.due("eight pages of 255 by 2", 4 * 255, press(filled(9, 255)).nuns(8, 2));
        Due.due("eight pages of 255 by 3", 3 * 255, press(filled(9, 255)).nuns(8, 3));
        Due.due("eight pages, the last counts", 9, press(0, 0, 0, 0, 0, 0, 0, 9, 99).nuns(8, 2));
        Due.due("three pages by 2", 200, press(100, 100, 100).nuns(3, 2));
        Due.due("three pages by 3", 100, press(100, 100, 100).nuns(3, 3));
        Midst.emptiesTapeOnly("nuns(8, 3)", filled(20, 5), 15, x -> x.nuns(8, 3));
    }

    private static void nunsBeyond() {
        for (int n : new int[] {0, -1, 9, Midst.LEAST, Midst.MOST}) {
            Midst.isRefused("nuns(" + n + ", 2)", x -> x.nuns(n, 2));
        }
        for (int many : new int[] {1, 4, 0, -1, Midst.LEAST, Midst.MOST}) {
            Midst.isRefused("nuns(8, " + many + ")", x -> x.nuns(8, many));
        }
        Midst.changesNothing("nuns(1, 2) of none", 0, -1, x -> x.nuns(1, 2));
        Midst.changesNothing("nuns(8, 3) of none", 0, -1, x -> x.nuns(8, 3));
    }

    private static void spaceEnds() {
        Due.due("one notice of 1 in 1", 255, press(1, 255).space(1, 1, 0));
        Due.due("one notice of 1 in 0", 0, press(1, 255).space(1, 0, 0));
        Due.due("one notice of 1 in 0: which", 0, press(1, 255).space(1, 0, 1));
        Due.due("one notice of 60 in 60", 1, press(60, 9).space(1, 60, 1));
        Due.due("one notice of 60 in 59", 0, press(60, 9).space(1, 59, 1));
        Due.due("four of 60 in 255", 4, press(60, 1, 60, 1, 60, 1, 60, 1, 60, 1).space(5, 255, 0));
        int[] ten = filled(20, 255);
        for (int i = 0; i < 20; i += 2) {
            ten[i] = 25;
        }
        Due.due("ten in 250", 2550, press(ten).space(10, 250, 0));
        Due.due("ten in 250: which", 1023, press(ten).space(10, 250, 1));
        Due.due("ten in 249", 9 * 255, press(ten).space(10, 249, 0));
        Due.due("ten in 255", 1023, press(ten).space(10, 255, 1));
        Due.due("nothing is paid", 0, press(1, 0).space(1, 9, 0));
        Due.due("nothing is paid: none", 0, press(1, 0).space(1, 9, 1));
        Midst.emptiesTapeOnly("space(10, 250, 1)", ten, 1023, x -> x.space(10, 250, 1));
    }

    private static void spaceCannot() {
        for (int what = 0; what <= 1; what++) {
            Due.due("a notice of 0", -3, press(0, 5).space(1, 255, what));
            Due.due("a notice of 61", -3, press(61, 5).space(1, 255, what));
            Due.due("a notice of 255", -3, press(255, 5).space(1, 255, what));
            Due.due("one that would not fit", -3, press(1, 5, 61, 5).space(2, 0, what));
            Due.due("one behind them is not asked", what == 0 ? 5 : 1, press(1, 5, 61, 5).space(1, 1, what));
        }
        for (int wrong = 0; wrong < 10; wrong++) {
            int[] ten = filled(20, 1);
            ten[2 * wrong] = 0;
            Due.due("notice " + wrong + " of 0", -3, press(ten).space(10, 9, 0));
        }
        Midst.emptiesTapeOnly("-3 empties the tape", new int[] {0, 1}, -3, x -> x.space(1, 9, 0));
        Due.due("NONE goes ahead of -3", -1, press(0, 5).space(1, 256, 0));
        Due.due("NONE goes ahead of -3, what", -1, press(0, 5).space(1, 255, 2));
    }

    private static void spaceBeyond() {
        for (int n : new int[] {0, -1, 11, Midst.LEAST, Midst.MOST, 1 << 30}) {
            Midst.isRefused("space(" + n + ", 9, 0)", x -> x.space(n, 9, 0));
        }
        for (int high : new int[] {-1, 256, Midst.LEAST, Midst.MOST}) {
            Midst.isRefused("space(1, " + high + ", 0)", x -> x.space(1, high, 0));
        }
        for (int what : new int[] {-1, 2, Midst.LEAST, Midst.MOST}) {
            Midst.isRefused("space(1, 9, " + what + ")", x -> x.space(1, 9, what));
        }
        Midst.changesNothing("space(1, 9, 0) of none", 0, -1, x -> x.space(1, 9, 0));
        Midst.changesNothing("space(10, 9, 0) of none", 0, -1, x -> x.space(10, 9, 0));
    }

    private static void styleEnds() {
        int[] two = {0, 0, 0, 0, 255, 255, 255, 255, 255, 255, 255, 254};
        Due.due("two: whose", 1, press(two).style(2, 0));
        Due.due("two: by how much", 1, press(two).style(2, 1));
        int[] six = filled(28, 255);
        Arrays.fill(six, 20, 24, 0);
        Arrays.fill(six, 24, 28, 0);
        Due.due("six: whose", 5, press(six).style(6, 0));
        Due.due("six: by how much", 0, press(six).style(6, 1));
        int[] far = filled(28, 0);
        Arrays.fill(far, 24, 28, 255);
        Due.due("the most that can be", 1020, press(far).style(6, 1));
        Due.due("all alike: the lowest", 0, press(far).style(6, 0));
        Midst.emptiesTapeOnly("style(6, 1)", far, 1020, x -> x.style(6, 1));
    }

    private static void styleBeyond() {
        for (int n : new int[] {1, 7, 0, -1, Midst.LEAST, Midst.MOST, 1 << 30}) {
            Midst.isRefused("style(" + n + ", 0)", x -> x.style(n, 0));
        }
        for (int what : new int[] {-1, 2, Midst.LEAST, Midst.MOST}) {
            Midst.isRefused("style(2, " + what + ")", x -> x.style(2, what));
        }
        Midst.changesNothing("style(2, 0) of none", 0, -1, x -> x.style(2, 0));
        Midst.changesNothing("style(5, 0) of 20 bytes", 20, -1, x -> x.style(5, 0));
        Midst.changesNothing("style(6, 0) of 20 bytes", 20, -1, x -> x.style(6, 0));
        Due.due("style(4, 0) of 20 bytes", 0, press(new int[20]).style(4, 0));
    }

    private static int named(String one, String other) {
        return press(Due.bytesOf(one + other)).names(one.length(), other.length());
    }

    private static void namesEnds() {
        Due.due("1 and 1, like", 0, named("a", "a"));
        Due.due("1 and 1, unlike", 1, named("a", "b"));
        Due.due("12 and 12, like", 0, named("abcdefghijkl", "abcdefghijkl"));
        Due.due("12 and 12, unlike", 12, named("abcdefghijkl", "mnopqrstuvwx"));
        Due.due("12 and 12, each two exchanged", 6, named("abcdefghijkl", "badcfehgjilk"));
        Due.due("12 and 12, the last two exchanged", 1, named("abcdefghijkl", "abcdefghijlk"));
        Due.due("12 and 12, the first two exchanged", 1, named("abcdefghijkl", "bacdefghijkl"));
        Due.due("1 and 12", 11, named("l", "abcdefghijkl"));
        Due.due("12 and 1", 12, named("abcdefghijkl", "x"));
        Due.due("each letter no more than once", 3, named("ca", "abc"));
        Midst.emptiesTapeOnly("names(12, 12)", filled(24, 'a'), 0, x -> x.names(12, 12));
    }

    private static void namesBeyond() {
        for (int n : new int[] {0, -1, 13, Midst.LEAST, Midst.MOST}) {
            Midst.isRefused("names(" + n + ", 1)", x -> x.names(n, 1));
            Midst.isRefused("names(1, " + n + ")", x -> x.names(1, n));
            Midst.isRefused("names(" + n + ", " + n + ")", x -> x.names(n, n));
        }
        Midst.changesNothing("names(1, 1) of none", 0, -1, x -> x.names(1, 1));
        Midst.changesNothing("names(12, 9) of 20 bytes", 20, -1, x -> x.names(12, 9));
        Midst.changesNothing("names(9, 12) of 20 bytes", 20, -1, x -> x.names(9, 12));
        Due.due("names(12, 8) of 20 bytes", 4, press(filled(20, 'a')).names(12, 8));
    }

    private static int duty(int breath, int... bytes) {
        WhisperPress x = new WhisperPress();
        x.person(15, 0, false);
        Due.gossip(x, "p=" + breath);
        Due.feed(x, bytes);
        int owed = x.duty(15, bytes.length / 2);
        Due.due("the tape is empty", 0, x.count(6));
        return owed;
    }

    private static void dutyEnds() {
        int[] two = {1, 7, 3, 100};
        int[][] due = {{0, 0}, {1, 7}, {9, 63}, {10, 70}, {11, 170}, {29, 1970}, {30, 2070}, {31, 2070}, {9999, 2070}};
        for (int[] row : due) {
            Due.due("BREATH " + row[0], row[1], duty(row[0], two));
        }
        Due.due("a bound of 2550, one less", 2549 * 255, duty(2549, 255, 255));
        Due.due("a bound of 2550, just so", 2550 * 255, duty(2550, 255, 255));
        Due.due("a bound of 2550, beyond it", 2550 * 255, duty(2551, 255, 255));
        Due.due("a duty of 0", 0, duty(9999, 255, 0));
        Due.due("six bounds", 10 * 6, duty(9999, 1, 1, 2, 1, 3, 1, 4, 1, 5, 1, 6, 1));
        Due.due("six bounds, the last alone", 10 * 9, duty(9999, 1, 0, 2, 0, 3, 0, 4, 0, 5, 0, 6, 9));
        int[] high = {250, 255, 251, 255, 252, 255, 253, 255, 254, 255, 255, 255};
        Due.due("six bounds, high ones", 2550 * 255, duty(9999, high));
    }

    private static void dutyOfAll() {
        WhisperPress x = new WhisperPress();
        x.person(0, 0, false);
        x.person(15, 0, false);
        Due.gossip(x, "a=5;p=6");
        Due.feed(x, 1, 2);
        Due.due("of a", 10, x.duty(0, 1));
        Due.feed(x, 1, 2);
        Due.due("of p", 12, x.duty(15, 1));
        Midst.emptiesTapeOnly("duty(0, 1)", new int[] {255, 1}, 77, y -> y.duty(0, 1));
    }

    private static void dutyCannot() {
        Due.due("a bound of 0", -3, duty(0, 0, 1));
        Due.due("a bound of 0, the second", -3, duty(0, 1, 1, 0, 1));
        Due.due("like bounds", -3, duty(0, 7, 1, 7, 1));
        Due.due("like bounds of 255", -3, duty(0, 255, 1, 255, 1));
        Due.due("falling bounds", -3, duty(9999, 7, 1, 6, 1));
        Due.due("the last of six falls", -3, duty(5, 1, 1, 2, 1, 3, 1, 4, 1, 5, 1, 4, 1));
        Due.due("rising by one", 3, duty(3, 6, 1, 7, 1));
        Midst.emptiesTapeOnly("-3 empties the tape", new int[] {2, 1, 2, 1}, -3, x -> x.duty(0, 2));
        Midst.emptiesTapeOnly("one behind them is not asked", new int[] {2, 1, 2, 1}, 20, x -> x.duty(0, 1));
    }

    private static void dutyBeyond() {
        for (int p : new int[] {-1, 16, 32, Midst.LEAST, Midst.MOST}) {
            Midst.isRefused("duty(" + p + ", 1)", x -> x.duty(p, 1));
        }
        Midst.isRefused("duty of one who is not told", x -> x.duty(2, 1));
        for (int n : new int[] {0, -1, 7, Midst.LEAST, Midst.MOST, 1 << 30}) {
            Midst.isRefused("duty(0, " + n + ")", x -> x.duty(0, n));
        }
        Midst.changesNothing("duty(0, 1) of none", 0, -1, x -> x.duty(0, 1));
        Midst.changesNothing("duty(0, 6) of none", 0, -1, x -> x.duty(0, 6));
    }

    private static void handsEnds() {
        Due.due("two, 15 days", 15, press(0, 0, 0, 15).hands(2, 0));
        Due.due("two, 15 days: who", 1, press(0, 0, 0, 15).hands(2, 1));
        Due.due("two, 0 days", 0, press(0, 0, 0, 0).hands(2, 0));
        Due.due("two, 0 days: who", 0, press(0, 0, 0, 0).hands(2, 1));
        Due.due("those of the first one are not asked", 3, press(255, 255, 0, 3).hands(2, 0));
        int[] row = new int[32];
        for (int p = 1; p < 16; p++) {
            row[2 * p] = p - 1;
            row[2 * p + 1] = 15;
        }
        Due.due("sixteen in a row", 225, press(row).hands(16, 0));
        Due.due("sixteen in a row: who", 15, press(row).hands(16, 1));
        Due.due("the first two of them", 15, press(row).hands(2, 0));
        for (int p = 1; p < 16; p++) {
            row[2 * p] = 0;
        }
        Due.due("all from the first one", 15, press(row).hands(16, 0));
        Midst.emptiesTapeOnly("hands(16, 1)", row, 1, x -> x.hands(16, 1));
    }

    private static void handsCannot() {
        for (int wrong = 1; wrong < 16; wrong++) {
            int[] row = new int[32];
            row[2 * wrong] = wrong;
            Due.due(wrong + " gets it from himself", -2, press(row).hands(16, 0));
            row[2 * wrong] = wrong - 1;
            Due.due(wrong + " gets it from the one before", 0, press(row).hands(16, 0));
            row[2 * wrong + 1] = 16;
            Due.due(wrong + " gets it in 16 days", -2, press(row).hands(16, 1));
            row[2 * wrong + 1] = 15;
            Due.due(wrong + " gets it in 15 days", wrong, press(row).hands(16, 1));
        }
        Due.due("from a higher one", -2, press(0, 0, 2, 0, 0, 0).hands(3, 0));
        Due.due("from 255", -2, press(0, 0, 255, 0).hands(2, 1));
        Due.due("in 255 days", -2, press(0, 0, 0, 255).hands(2, 0));
        Due.due("one behind them is not asked", 4, press(0, 0, 0, 4, 9, 99).hands(2, 0));
        Midst.emptiesTapeOnly("-2 empties the tape", new int[] {0, 0, 1, 0}, -2, x -> x.hands(2, 0));
    }

    private static void handsBeyond() {
        for (int n : new int[] {1, 17, 0, -1, Midst.LEAST, Midst.MOST, 1 << 30}) {
            Midst.isRefused("hands(" + n + ", 0)", x -> x.hands(n, 0));
        }
        for (int what : new int[] {-1, 2, Midst.LEAST, Midst.MOST}) {
            Midst.isRefused("hands(2, " + what + ")", x -> x.hands(2, what));
        }
        Midst.changesNothing("hands(2, 0) of none", 0, -1, x -> x.hands(2, 0));
        Midst.changesNothing("hands(11, 0) of 20 bytes", 20, -1, x -> x.hands(11, 0));
        Due.due("hands(10, 0) of 20 bytes", 0, press(new int[20]).hands(10, 0));
    }
}
