/** Promises 20 to 24: both ends of each bound, and one beyond each end. */
public final class BoundsOfCopyTest {
    private static final int[] NO_WIDTH = {11, 61, 0, -1, Midst.LEAST, Midst.MOST};
    private static final String SIXTY_OF_12 = "9abcdefghijkl_".repeat(6) + "6abcdefghijkl";

    public static void main(String[] args) {
        lineOfEnds();
        lineOfBeyond();
        setEnds();
        setBeyond();
        justFits();
        copyIsEnds();
        copyIsBeyond();
        typeEnds();
        typeBeyond();
        boughtEnds();
        boughtBeyond();
        Due.end();
    }

    private static WhisperPress press(String copy) {
        WhisperPress x = new WhisperPress();
        Due.due("no FAULT in " + copy, true, Due.copy(x, copy) > 0);
        return x;
    }

    private static void lineOfEnds() {
        WhisperPress x = press(SIXTY_OF_12);
        Due.due("lineOf(12, 0)", 0, x.lineOf(12, 0));
        Due.due("lineOf(12, 59)", 59, x.lineOf(12, 59));
        // Four of 12 are 51 wide; fifteen lines of four.
        Due.due("lineOf(60, 0)", 0, x.lineOf(60, 0));
        Due.due("lineOf(60, 59)", 14, x.lineOf(60, 59));
        x = press("a");
        Due.due("one WORD, the narrowest", 0, x.lineOf(12, 0));
        Due.due("one WORD, the widest", 0, x.lineOf(60, 0));
    }

    private static void lineOfBeyond() {
        for (int wide : NO_WIDTH) {
            Midst.isRefused("lineOf(" + wide + ", 0)", x -> x.lineOf(wide, 0));
        }
        // COPY there has 7 WORDS.
        for (int i : new int[] {-1, 7, 8, 60, Midst.LEAST, Midst.MOST}) {
            Midst.isRefused("lineOf(12, " + i + ")", x -> x.lineOf(12, i));
        }
        WhisperPress x = Midst.press(0);
        Due.due("the last WORD is there", true, x.lineOf(12, 6) >= 0);
        Due.due("no WORD 60", -1, press(SIXTY_OF_12).lineOf(12, 60));
        x = press("9a");
        Due.copy(x, "2a");
        Due.due("not one of the COPY before", -1, x.lineOf(12, 2));
    }

    private static void setEnds() {
        WhisperPress x = press(SIXTY_OF_12);
        Due.due("set(12, 0)", 0, x.set(12, 0));
        Due.due("set(12, 1)", 60, x.set(12, 1));
        Due.due("set(12, 2)", 1, x.set(12, 2));
        Due.due("set(60, 0)", 14 * 9 * 9, x.set(60, 0));
        Due.due("set(60, 1)", 15, x.set(60, 1));
        Due.due("set(60, 2)", 4, x.set(60, 2));
        x = press("a");
        Due.due("one WORD: nothing is left free but in the last line", 0, x.set(60, 0));
        Due.due("one WORD: one line", 1, x.set(60, 1));
        Due.due("one WORD: in it", 1, x.set(60, 2));
        // The most that can be left free in a line: a WORD of 1 and one of 12 do not fit in 12.
        x = press("a_bcdefghijklm_n_bcdefghijklm");
        Due.due("11 free, twice", 2 * 11 * 11, x.set(12, 0));
    }

    private static void setBeyond() {
        for (int wide : NO_WIDTH) {
            for (int what = 0; what <= 2; what++) {
                int asked = what;
                Midst.isRefused("set(" + wide + ", " + what + ")", x -> x.set(wide, asked));
            }
        }
        for (int what : new int[] {-1, 3, Midst.LEAST, Midst.MOST}) {
            Midst.isRefused("set(12, " + what + ")", x -> x.set(12, what));
            Due.due("no COPY: set(12, " + what + ")", -1, new WhisperPress().set(12, what));
        }
        Due.due("no COPY: set(11, 0)", -1, new WhisperPress().set(11, 0));
        Due.due("no COPY: set(61, 0)", -1, new WhisperPress().set(61, 0));
    }

    /** "one space between two WORDS": a line is full with 12 letters and spaces, not with 13. */
    private static void justFits() {
        WhisperPress x = press("aaaaaa_bbbbb_c");
        Due.due("6 and 5 and a space: what is free", 0, x.set(12, 0));
        Due.due("6 and 5 and a space: two lines", 2, x.set(12, 1));
        Due.due("6 and 5 and a space: both", 2, x.set(12, 2));
        x = press("aaaaaa_bbbbbb_c");
        Due.due("6 and 6 and a space: the second goes on", 1, x.set(12, 2));
        Due.due("6 and 6 and a space: 13 wide", 2, x.set(13, 2));
        Due.due("all in one line of 15", 1, x.set(15, 1));
        Due.due("not in one of 14", 2, x.set(14, 1));
    }

    private static void copyIsEnds() {
        WhisperPress x = press(SIXTY_OF_12);
        Due.due("letters", 720, x.copyIs(0));
        Due.due("the longest WORD", 12, x.copyIs(1));
        Due.due("unlike letters", 12, x.copyIs(2));
        x = press("a");
        Due.due("one letter", 1, x.copyIs(0));
        Due.due("the longest WORD has one", 1, x.copyIs(1));
        Due.due("one unlike letter", 1, x.copyIs(2));
        Due.due("all 26", 26, press("abcdefghijkl_mnopqrstuvwx_yz").copyIs(2));
    }

    private static void copyIsBeyond() {
        for (int what : new int[] {-1, 3, Midst.LEAST, Midst.MOST}) {
            Midst.isRefused("copyIs(" + what + ")", x -> x.copyIs(what));
        }
    }

    private static void typeEnds() {
        WhisperPress x = press("9aaaaaaaaaaaa_zz_m");
        Due.due("type(0)", 108, x.type(0));
        Due.due("type(25)", 2, x.type(25));
        Due.due("type(12)", 1, x.type(12));
        Due.due("type(1)", 0, x.type(1));
        Due.due("720 of one", 720, press("9zzzzzzzzzzzz_".repeat(6) + "6zzzzzzzzzzzz").type(25));
    }

    private static void typeBeyond() {
        for (int letter : new int[] {-1, 26, 'a', 'z', Midst.LEAST, Midst.MOST}) {
            Midst.isRefused("type(" + letter + ")", x -> x.type(letter));
        }
    }

    private static void boughtEnds() {
        WhisperPress x = press("9zzzzzzzzzzzz_".repeat(6) + "6zzzzzzzzzzzz");
        Due.due("bought(0)", 720, x.bought(0));
        Due.due("bought(1)", 719, x.bought(1));
        Due.due("bought(255)", 465, x.bought(255));
        x = press("3ab_b");
        Due.due("3 of a, 4 of b: bought(3)", 1, x.bought(3));
        Due.due("3 of a, 4 of b: bought(4)", 0, x.bought(4));
        Due.due("3 of a, 4 of b: bought(2)", 3, x.bought(2));
    }

    private static void boughtBeyond() {
        for (int each : new int[] {-1, 256, Midst.LEAST, Midst.MOST}) {
            Midst.isRefused("bought(" + each + ")", x -> x.bought(each));
        }
    }
}
