/** Promises 20 to 24: COPY, how it is SET, and TYPE. */
public final class CopyTest {
    public static void main(String[] args) {
        noCopy();
        squares();
        ties();
        lineOf();
        widths();
        copyIs();
        types();
        bought();
        Due.end();
    }

    private static WhisperPress press(String copy) {
        WhisperPress x = new WhisperPress();
        Due.due("no FAULT in " + copy, true, Due.copy(x, copy) > 0);
        return x;
    }

    private static void set(String copy, int wide, int squares, int lines, int first) {
        WhisperPress x = press(copy);
        String call = "set " + copy + " " + wide + ": ";
        Due.due(call + "squares", squares, x.set(wide, 0));
        Due.due(call + "lines", lines, x.set(wide, 1));
        Due.due(call + "first", first, x.set(wide, 2));
    }

    private static void noCopy() {
        WhisperPress x = new WhisperPress();
        for (int what = 0; what < 3; what++) {
            Due.due("no COPY: set", 0, x.set(12, what));
            Due.due("no COPY: copyIs", 0, x.copyIs(what));
        }
        Due.due("no COPY: lineOf", -1, x.lineOf(12, 0));
        Due.due("no COPY: type", 0, x.type(0));
        Due.due("no COPY: bought", 0, x.bought(0));
    }

    private static void squares() {
        set("a", 12, 0, 1, 1);
        set("abcdefghijkl", 12, 0, 1, 1);
        set("2abcdefghijkl", 12, 0, 2, 1);
        set("3abcdefghijkl", 13, 2, 3, 1);
        // 3 + 1 + 2 + 1 + 2 letters: 9 of 12.
        set("aaa_bb_cc_ddddd", 12, 9, 2, 3);
        // As full as can be: 11 of 12, then 4, then 11 (1 + 64); evenly: 7, 8, 11 (25 + 16).
        set("aaaaaaa_bbb_cccc_ddddddddd_e", 12, 41, 3, 1);
        set("6a", 12, 0, 1, 6);
    }

    private static void ties() {
        // 6 WORDS of one letter are 11 wide.
        set("6a_7a", 12, 2, 3, 6);
        set("5aaaaa", 12, 2, 3, 2);
        set("5aaa", 12, 1, 2, 3);
        // 5 3 | 5 | 12 and 5 | 3 5 | 12 have the same squares, 9 + 49: more WORDS go first.
        set("aaaaa_bbb_ccccc_dddddddddddd", 12, 58, 3, 2);
        WhisperPress x = press("aaaaaaaaaaaa_aaaaa_bbb_ccccc_dddddddddddd");
        Due.due("so on from line to line", 1, x.lineOf(12, 2));
        // 85 squares can be had with 6 lines, too.
        String like = "2aaaaaaa_aa_aaaaaaa_9aa_3aa_2aaaaaaa_4aa_2aaaaaaa_3aa";
        set(like, 25, 85, 5, 3);
    }

    private static void lineOf() {
        WhisperPress x = press("aaaaaaa_bbb_cccc_ddddddddd_e");
        int[] due = {0, 1, 1, 2, 2};
        for (int i = 0; i < 5; i++) {
            Due.due("lineOf(12, " + i + ")", due[i], x.lineOf(12, i));
            Due.due("lineOf(60, " + i + ")", 0, x.lineOf(60, i));
        }
        Due.due("lineOf(12, 5)", -1, x.lineOf(12, 5));
        Due.due("lineOf(12, -1)", -1, x.lineOf(12, -1));
        Due.due("lineOf(11, 0)", -1, x.lineOf(11, 0));
        Due.due("lineOf(61, 0)", -1, x.lineOf(61, 0));
        x = press("9abcdefghijkl_9abcdefghijkl_9abcdefghijkl_9abcdefghijkl_9abcdefghijkl_9abcdefghijkl_6abcdefghijkl");
        Due.due("60 lines", 60, x.set(12, 1));
        Due.due("the last line", 59, x.lineOf(12, 59));
    }

    private static void widths() {
        WhisperPress x = press("a");
        for (int wide : new int[] {11, 61, -1, 0, Integer.MIN_VALUE, Integer.MAX_VALUE}) {
            Due.due("set(" + wide + ", 0)", -1, x.set(wide, 0));
        }
        Due.due("set(12, 3)", -1, x.set(12, 3));
        Due.due("set(12, -1)", -1, x.set(12, -1));
        x = press("2abcdefghijkl_2abcdefghijkl_abcdefgh");
        // 12 + 1 + 12 + 1 + 12 + 1 + 12 + 1 + 8 = 60.
        Due.due("just 60", 1, x.set(60, 1));
        Due.due("not in 59", 2, x.set(59, 1));
    }

    private static void copyIs() {
        WhisperPress x = press("3abc_zz_y");
        Due.due("letters", 12, x.copyIs(0));
        Due.due("the longest WORD", 3, x.copyIs(1));
        Due.due("unlike letters", 5, x.copyIs(2));
        Due.due("copyIs(3)", -1, x.copyIs(3));
        Due.due("copyIs(-1)", -1, x.copyIs(-1));
        Due.due("the first WORD is the longest", 5, press("aaaaa_bb").copyIs(1));
        Due.due("the last WORD is the longest", 5, press("bb_aaaaa").copyIs(1));
        Due.due("a longer one, then a shorter one", 1, Due.copy(x, "aaaaaaaa"));
        Due.due("in place of the one before", 1, Due.copy(x, "qq"));
        Due.due("the longest WORD then", 2, x.copyIs(1));
        Due.due("letters then", 2, x.copyIs(0));
        Due.due("unlike letters then", 1, x.copyIs(2));
        Due.due("type then", 0, x.type(0));
    }

    private static void types() {
        WhisperPress x = press("3abc_zz_9a");
        Due.due("type(0)", 12, x.type(0));
        Due.due("type(1)", 3, x.type(1));
        Due.due("type(25)", 2, x.type(25));
        Due.due("type(24)", 0, x.type(24));
        Due.due("type(-1)", -1, x.type(-1));
        Due.due("type(26)", -1, x.type(26));
    }

    private static void bought() {
        WhisperPress x = press("3abc_zz_9a");
        Due.due("bought(0)", 20, x.bought(0));
        Due.due("bought(1)", 16, x.bought(1));
        Due.due("bought(2)", 12, x.bought(2));
        Due.due("bought(3)", 9, x.bought(3));
        Due.due("bought(12)", 0, x.bought(12));
        Due.due("bought(255)", 0, x.bought(255));
        Due.due("bought(-1)", -1, x.bought(-1));
        Due.due("bought(256)", -1, x.bought(256));
        x = press("9aaaaaaaaaaaa_9aaaaaaaaaaaa_9aaaaaaaaaaaa_9aaaaaaaaaaaa_9aaaaaaaaaaaa_9aaaaaaaaaaaa_6aaaaaaaaaaaa");
        Due.due("720 of a", 465, x.bought(255));
    }
}
