/** Promises 25 to 30: what is reckoned from the tape. */
public final class DeskTest {
    public static void main(String[] args) {
        nuns();
        space();
        spaceRefused();
        style();
        names();
        duty();
        hands();
        Due.end();
    }

    private static WhisperPress press(int... bytes) {
        WhisperPress x = new WhisperPress();
        Due.feed(x, bytes);
        return x;
    }

    private static void stays(WhisperPress x, String call, int want, int got, int tape) {
        Due.due(call, want, got);
        Due.due(call + ": the tape", tape, x.count(6));
    }

    private static void nuns() {
        Due.due("5 4 3 2 1 by 2", 8, press(5, 4, 3, 2, 1).nuns(5, 2));
        Due.due("5 4 3 2 1 by 3", 5, press(5, 4, 3, 2, 1).nuns(5, 3));
        // The largest first, each to the one who has least, would end with 7.
        Due.due("3 3 2 2 2 by 2", 6, press(3, 3, 2, 2, 2).nuns(5, 2));
        Due.due("7 7 6 6 5 5 4 4 by 3", 15, press(7, 7, 6, 6, 5, 5, 4, 4).nuns(8, 3));
        Due.due("eight of 255 by 2", 1020, press(255, 255, 255, 255, 255, 255, 255, 255).nuns(8, 2));
        Due.due("eight of 255 by 3", 765, press(255, 255, 255, 255, 255, 255, 255, 255).nuns(8, 3));
        Due.due("one page of 255", 255, press(255).nuns(1, 3));
        Due.due("no work", 0, press(0, 0).nuns(2, 3));
        Due.due("the first n alone", 9, press(9, 200).nuns(1, 2));
        WhisperPress x = press(1, 2, 3);
        stays(x, "nuns(0, 2)", -1, x.nuns(0, 2), 20);
        stays(x, "nuns(9, 2)", -1, x.nuns(9, 2), 20);
        stays(x, "nuns(3, 1)", -1, x.nuns(3, 1), 20);
        stays(x, "nuns(3, 4)", -1, x.nuns(3, 4), 20);
        stays(x, "nuns(3, 2)", 3, x.nuns(3, 2), 0);
        stays(x, "nuns(1, 2), no tape", -1, x.nuns(1, 2), 0);
    }

    private static void space() {
        int[] three = {3, 5, 4, 6, 5, 9};
        Due.due("in 7", 11, press(three).space(3, 7, 0));
        Due.due("in 7: which", 3, press(three).space(3, 7, 1));
        Due.due("in 9", 15, press(three).space(3, 9, 0));
        Due.due("in 9: which", 6, press(three).space(3, 9, 1));
        Due.due("in 255", 20, press(three).space(3, 255, 0));
        Due.due("in 0", 0, press(three).space(3, 0, 0));
        Due.due("in 0: which", 0, press(three).space(3, 0, 1));
        Due.due("the least bits", 1, press(2, 5, 2, 5, 1, 0).space(3, 3, 1));
        Due.due("what pays nothing is left out", 4, press(1, 0, 1, 0, 1, 7).space(3, 60, 1));
        // 3 and 4 pay as much as 7 does.
        Due.due("least bits, not fewest", 3, press(3, 4, 4, 5, 7, 9).space(3, 7, 1));
        Due.due("least bits, not last", 1, press(7, 9, 3, 4, 4, 5).space(3, 7, 1));
        int[] ten = new int[20];
        for (int i = 0; i < 10; i++) {
            ten[2 * i] = 25;
            ten[2 * i + 1] = 255;
        }
        Due.due("ten notices", 2550, press(ten).space(10, 255, 0));
        Due.due("ten notices, nine fit", 511, press(ten).space(10, 249, 1));
    }

    private static void spaceRefused() {
        WhisperPress x = press(0, 5);
        stays(x, "a notice of 0", -3, x.space(1, 9, 0), 0);
        Due.due("of 61", -3, press(61, 5).space(1, 255, 1));
        Due.due("of 60", 5, press(60, 5).space(1, 60, 0));
        Due.due("the last of three", -3, press(1, 1, 1, 1, 0, 1).space(3, 9, 1));
        Due.due("one that is not asked", 1, press(1, 1, 0, 1).space(1, 9, 0));
        int[] eleven = new int[22];
        java.util.Arrays.fill(eleven, 1);
        x = press(eleven);
        stays(x, "space(11, 9, 0)", -1, x.space(11, 9, 0), 40);
        stays(x, "space(10, 9, 0)", 9, x.space(10, 9, 0), 0);
        x = press(1, 1);
        stays(x, "space(0, 9, 0)", -1, x.space(0, 9, 0), 20);
        stays(x, "space(11, 9, 0), 20 bytes", -1, x.space(11, 9, 0), 20);
        stays(x, "space(1, -1, 0)", -1, x.space(1, -1, 0), 20);
        stays(x, "space(1, 256, 0)", -1, x.space(1, 256, 0), 20);
        stays(x, "space(1, 9, 2)", -1, x.space(1, 9, 2), 20);
        stays(x, "space(1, 9, -1)", -1, x.space(1, 9, -1), 20);
        stays(x, "space(1, 9, 0)", 1, x.space(1, 9, 0), 0);
        stays(x, "no tape", -1, x.space(1, 9, 0), 0);
    }

    private static void style() {
        int[] two = {1, 2, 3, 4, 5, 5, 5, 5, 4, 4, 4, 4};
        Due.due("whose", 1, press(two).style(2, 0));
        Due.due("by how much", 4, press(two).style(2, 1));
        Due.due("of like ones the lowest", 0, press(0, 0, 0, 2, 2, 0, 0, 0, 0, 0, 0, 0).style(2, 0));
        int[] six = new int[28];
        for (int i = 0; i < 20; i++) {
            six[i] = 255;
        }
        Due.due("six: the last one", 5, press(six).style(6, 0));
        Due.due("six: by nothing", 0, press(six).style(6, 1));
        Due.due("most that can be", 1020, press(255, 255, 255, 255, 255, 255, 255, 255, 0, 0, 0, 0).style(2, 1));
        WhisperPress x = press(two);
        stays(x, "style(1, 0)", -1, x.style(1, 0), 20);
        WhisperPress y = press(new int[32]);
        stays(y, "style(7, 0)", -1, y.style(7, 0), 40);
        stays(x, "style(2, 2)", -1, x.style(2, 2), 20);
        stays(x, "style(2, -1)", -1, x.style(2, -1), 20);
        stays(x, "style(5, 0), 24 bytes", -1, x.style(5, 0), 20);
        stays(x, "style(4, 0), 20 bytes", 3, x.style(4, 0), 0);
    }

    private static void named(String one, String other, int due) {
        Due.due(one + " " + other, due, press(Due.bytesOf(one + other)).names(one.length(), other.length()));
        Due.due(other + " " + one, due, press(Due.bytesOf(other + one)).names(other.length(), one.length()));
    }

    private static void names() {
        named("anna", "anna", 0);
        named("anna", "ana", 1);
        named("anna", "hanna", 1);
        named("anna", "anne", 1);
        named("anna", "nana", 1);
        named("abc", "acb", 1);
        named("ca", "abc", 3);
        named("ab", "ba", 1);
        named("abcd", "badc", 2);
        named("a", "b", 1);
        named("a", "abcdefghijkl", 11);
        named("abcdefghijkl", "mnopqrstuvwx", 12);
        named("abcdefghijkl", "lkjihgfedcba", 12 - 1);
        named("kitten", "sitting", 3);
        WhisperPress x = press(Due.bytesOf("aa"));
        stays(x, "names(0, 1)", -1, x.names(0, 1), 20);
        stays(x, "names(1, 0)", -1, x.names(1, 0), 20);
        stays(x, "names(13, 1)", -1, x.names(13, 1), 20);
        stays(x, "names(1, 13)", -1, x.names(1, 13), 20);
        stays(x, "names(12, 9), 21 bytes", -1, x.names(12, 9), 20);
        stays(x, "names(max, max)", -1, x.names(Integer.MAX_VALUE, Integer.MAX_VALUE), 20);
        stays(x, "names(1, 1)", 0, x.names(1, 1), 0);
    }

    private static int duty(int breath, int... bytes) {
        WhisperPress x = new WhisperPress();
        x.person(2, 0, false);
        Due.gossip(x, "c=" + breath);
        Due.feed(x, bytes);
        int owed = x.duty(2, bytes.length / 2);
        Due.due("the tape is empty", 0, x.count(6));
        return owed;
    }

    private static void duty() {
        Due.due("25", 55, duty(25, 1, 2, 2, 3, 5, 1));
        Due.due("0", 0, duty(0, 1, 2, 2, 3, 5, 1));
        Due.due("10", 20, duty(10, 1, 2, 2, 3, 5, 1));
        Due.due("11", 23, duty(11, 1, 2, 2, 3, 5, 1));
        Due.due("50", 80, duty(50, 1, 2, 2, 3, 5, 1));
        Due.due("beyond the last one", 80, duty(9999, 1, 2, 2, 3, 5, 1));
        Due.due("255", 650250, duty(9999, 255, 255));
        Due.due("six bounds", 10 * (1 + 2 + 3 + 4 + 5 + 6), duty(60, 1, 1, 2, 2, 3, 3, 4, 4, 5, 5, 6, 6));
        Due.due("one of 0", -3, duty(5, 0, 1));
        Due.due("not rising", -3, duty(5, 2, 1, 2, 1));
        Due.due("falling, beyond his breath", -3, duty(5, 2, 1, 3, 1, 1, 1));
        WhisperPress x = press(1, 1);
        stays(x, "not told", -1, x.duty(0, 1), 20);
        x.person(0, 0, false);
        stays(x, "duty(1, 1)", -1, x.duty(1, 1), 20);
        stays(x, "duty(-1, 1)", -1, x.duty(-1, 1), 20);
        stays(x, "duty(16, 1)", -1, x.duty(16, 1), 20);
        stays(x, "duty(0, 0)", -1, x.duty(0, 0), 20);
        stays(x, "duty(0, 7)", -1, x.duty(0, 7), 20);
        stays(x, "duty(0, 1)", 0, x.duty(0, 1), 0);
        stays(x, "no tape", -1, x.duty(0, 1), 0);
    }

    private static void hands() {
        int[] four = {9, 99, 0, 3, 1, 15, 0, 7};
        Due.due("days", 18, press(four).hands(4, 0));
        Due.due("who", 2, press(four).hands(4, 1));
        Due.due("of like ones the lowest", 1, press(0, 0, 0, 3, 0, 3).hands(3, 1));
        Due.due("no days", 0, press(0, 0, 0, 0).hands(2, 0));
        Due.due("no days: who", 0, press(0, 0, 0, 0).hands(2, 1));
        Due.due("from himself", -2, press(0, 0, 1, 0).hands(2, 0));
        Due.due("from a higher one", -2, press(0, 0, 2, 0, 0, 0).hands(3, 1));
        Due.due("in 16 days", -2, press(0, 0, 0, 16).hands(2, 1));
        int[] row = new int[32];
        for (int p = 1; p < 16; p++) {
            row[2 * p] = p - 1;
            row[2 * p + 1] = 15;
        }
        Due.due("a row of sixteen", 225, press(row).hands(16, 0));
        Due.due("a row of sixteen: who", 15, press(row).hands(16, 1));
        WhisperPress x = press(four);
        stays(x, "hands(1, 0)", -1, x.hands(1, 0), 20);
        WhisperPress y = press(new int[34]);
        stays(y, "hands(17, 0)", -1, y.hands(17, 0), 40);
        stays(x, "hands(4, 2)", -1, x.hands(4, 2), 20);
        stays(x, "hands(4, -1)", -1, x.hands(4, -1), 20);
        stays(x, "hands(11, 0), 22 bytes", -1, x.hands(11, 0), 20);
        stays(x, "hands(4, 0)", 18, x.hands(4, 0), 0);
        x = press(0, 0, 5, 0);
        stays(x, "-2 empties the tape", -2, x.hands(2, 0), 0);
    }
}
