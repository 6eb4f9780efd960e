import java.util.ArrayList;
import java.util.List;

/**
 * A press in the midst of its work, and all that can be asked of it, so that a test can see that a call
 * changes nothing: a press with the call must answer as one without it.
 */
final class Midst {
    /** Values far beyond any bound. */
    static final int LEAST = Integer.MIN_VALUE;
    static final int MOST = Integer.MAX_VALUE;

    private static final String SHORT_TAPE = "r(1=1);r(1=2);r(1=3)";
    private static final String LONG_TAPE = "r(" + "1+".repeat(117) + "1=1)" + "a".repeat(20);

    /** A call on a press; of true and false 1 and 0. */
    interface Call {
        long of(WhisperPress x);
    }

    private Midst() {
    }

    static int bit(boolean answer) {
        return answer ? 1 : 0;
    }

    /** Told are a, b, e, g, p; a, b, e, p were KEPT; the tape has 0, 20 or 260 bytes. */
    static WhisperPress press(int tape) {
        WhisperPress x = new WhisperPress();
        x.person(0, 0x0007, false);
        x.person(1, 0x8008, true);
        x.person(4, 0x0010, false);
        x.person(15, 0x0001, true);
        Due.law(x, "e9-k%5(1=1);h9(1=1);m3(1=1);r(p<9)");
        Due.copy(x, "3abc_defg_hi_2j");
        x.weeks(2);
        x.keep();
        x.weeks(3);
        x.person(6, 0x0040, true);
        Due.gossip(x, "a=77;b?");
        x.seed(999);
        String bytes = tape == 0 ? "" : tape == 20 ? SHORT_TAPE : LONG_TAPE;
        Due.feed(x, Due.bytesOf(bytes));
        Due.due("bytes of the tape", tape, x.count(6));
        return x;
    }

    /** Each kind of question; the last of them take the tape and go back to what was KEPT. */
    static List<Long> answers(WhisperPress x) {
        List<Long> all = new ArrayList<>();
        counts(x, all);
        people(x, all);
        issues(x, all);
        trials(x, all);
        copy(x, all);
        all.add((long) x.law(Math.min(240, x.count(6))));
        all.add((long) x.count(5));
        all.add((long) bit(x.undo()));
        counts(x, all);
        people(x, all);
        issues(x, all);
        return all;
    }

    private static void counts(WhisperPress x, List<Long> all) {
        for (int what = 0; what <= 8; what++) {
            all.add((long) x.count(what));
        }
    }

    private static void people(WhisperPress x, List<Long> all) {
        for (int p = 0; p < 16; p++) {
            all.add((long) x.personIs(p, 0));
            all.add((long) x.personIs(p, 3));
        }
    }

    private static void issues(WhisperPress x, List<Long> all) {
        for (int i = 1; i <= 6; i++) {
            all.add((long) x.backNumber(i, 100));
            for (int what = 0; what < 9; what++) {
                all.add((long) x.backNumber(i, what));
            }
        }
    }

    private static void trials(WhisperPress x, List<Long> all) {
        for (int what = 0; what <= 3; what++) {
            all.add((long) x.tried(7, what));
        }
    }

    private static void copy(WhisperPress x, List<Long> all) {
        for (int letter = 0; letter < 26; letter++) {
            all.add((long) x.type(letter));
        }
        for (int word = 0; word < 8; word++) {
            all.add((long) x.lineOf(12, word));
        }
    }

    /** The call answers so, and nothing is changed, nor is the tape. */
    static void changesNothing(String name, int tape, long want, Call call) {
        WhisperPress x = press(tape);
        Due.due(name, want, call.of(x));
        same(name + ": what stays", answers(press(tape)), answers(x));
    }

    /** No such call: NONE, whatever the tape has. */
    static void isRefused(String name, Call call) {
        changesNothing(name, 260, WhisperPress.NONE, call);
    }

    /** The call answers so by what is fed first; nothing else is changed, and the tape is empty then. */
    static void emptiesTapeOnly(String name, int[] bytes, long want, Call call) {
        WhisperPress x = press(0);
        Due.feed(x, bytes);
        Due.due(name, want, call.of(x));
        Due.due(name + ": the tape", 0, x.count(6));
        same(name + ": what stays", answers(press(0)), answers(x));
    }

    static void same(String name, List<Long> want, List<Long> got) {
        Due.due(name + ", how many answers", want.size(), got.size());
        for (int i = 0; i < want.size(); i++) {
            Due.due(name + ", answer " + i, want.get(i), got.get(i));
        }
    }
}
