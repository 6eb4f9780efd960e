/** Promises 2, 9, 11, 12, 13: both ends of each bound, and one beyond each end. */
public final class BoundsOfPeopleTest {
    private static final int[] NO_PERSON = {-1, 16, 31, 32, Midst.LEAST, Midst.MOST};

    public static void main(String[] args) {
        personEnds();
        personBeyond();
        personInPlace();
        personIsEnds();
        personIsBeyond();
        whoseEnds();
        whoseBeyond();
        aloneEnds();
        enoughEnds();
        enoughBeyond();
        Due.end();
    }

    private static void personEnds() {
        for (int p : new int[] {0, 15}) {
            WhisperPress x = new WhisperPress();
            Due.due("person(" + p + ", 5, true)", true, x.person(p, 5, true));
            Due.due("told", 1 << p, x.count(1));
            Due.due("READERS", 1 << p, x.count(2));
            Due.due("SECRETS", 5, x.personIs(p, 0));
        }
        for (int secrets : new int[] {0, 1, 32768, 65535}) {
            WhisperPress x = new WhisperPress();
            Due.due("person(3, " + secrets + ", false)", true, x.person(3, secrets, false));
            Due.due("SECRETS", secrets, x.personIs(3, 0));
            Due.due("how many", Integer.bitCount(secrets), x.personIs(3, 1));
            Due.due("no READER", 0, x.count(2));
        }
    }

    private static void personBeyond() {
        for (int p : NO_PERSON) {
            Midst.changesNothing("person(" + p + ", 1, true)", 20, 0, x -> Midst.bit(x.person(p, 1, true)));
        }
        for (int secrets : new int[] {-1, 65536, Midst.LEAST, Midst.MOST}) {
            for (int p : new int[] {0, 2}) {
                Midst.changesNothing("person(" + p + ", " + secrets + ", true)", 20, 0,
                        x -> Midst.bit(x.person(p, secrets, true)));
            }
        }
    }

    private static void personInPlace() {
        WhisperPress x = new WhisperPress();
        x.person(15, 65535, true);
        x.person(0, 1, true);
        Due.gossip(x, "p=9999;a=1");
        Due.due("in place of the one before", true, x.person(15, 0, false));
        Due.due("SECRETS", 0, x.personIs(15, 0));
        Due.due("no READER", 0, x.personIs(15, 2));
        Due.due("BREATH 0", 0, x.personIs(15, 3));
        Due.due("the other one stays: SECRETS", 1, x.personIs(0, 0));
        Due.due("the other one stays: a READER", 1, x.count(2));
        Due.due("the other one stays: BREATH", 1, x.personIs(0, 3));
        Due.due("told are both", 0x8001, x.count(1));
    }

    private static void personIsEnds() {
        for (int p : new int[] {0, 15}) {
            WhisperPress x = new WhisperPress();
            x.person(p, 65535, true);
            Due.gossip(x, (char) ('a' + p) + "=9999");
            Due.due("personIs(" + p + ", 0)", 65535, x.personIs(p, 0));
            Due.due("personIs(" + p + ", 1)", 16, x.personIs(p, 1));
            Due.due("personIs(" + p + ", 2)", 1, x.personIs(p, 2));
            Due.due("personIs(" + p + ", 3)", 9999, x.personIs(p, 3));
            x.person(p, 0, false);
            for (int what = 0; what <= 3; what++) {
                Due.due("personIs(" + p + ", " + what + "), nothing", 0, x.personIs(p, what));
            }
        }
    }

    private static void personIsBeyond() {
        for (int p : NO_PERSON) {
            Midst.isRefused("personIs(" + p + ", 0)", x -> x.personIs(p, 0));
        }
        for (int what : new int[] {-1, 4, Midst.LEAST, Midst.MOST}) {
            Midst.isRefused("personIs(0, " + what + ")", x -> x.personIs(0, what));
        }
        for (int what = 0; what <= 3; what++) {
            int asked = what;
            Midst.isRefused("personIs of one who is not told, " + what, x -> x.personIs(2, asked));
        }
    }

    private static void whoseEnds() {
        WhisperPress x = new WhisperPress();
        x.person(0, 0x8001, false);
        x.person(15, 0x8001, false);
        x.person(7, 0x7ffe, false);
        Due.due("whose(0)", 0x8001, x.whose(0));
        Due.due("whose(15)", 0x8001, x.whose(15));
        Due.due("whose(1)", 0x0080, x.whose(1));
        Due.due("whose(14)", 0x0080, x.whose(14));
        for (int p = 0; p < 16; p++) {
            x.person(p, 65535, false);
        }
        Due.due("all KNOW", 65535, x.whose(9));
        for (int p = 0; p < 16; p++) {
            x.person(p, 0, false);
        }
        Due.due("none KNOWS", 0, x.whose(9));
    }

    private static void whoseBeyond() {
        for (int secret : new int[] {-1, 16, 31, 32, Midst.LEAST, Midst.MOST}) {
            Midst.isRefused("whose(" + secret + ")", x -> x.whose(secret));
        }
    }

    private static void aloneEnds() {
        WhisperPress x = new WhisperPress();
        for (int p = 0; p < 16; p++) {
            x.person(p, 1 << p, false);
        }
        Due.due("each alone", 65535, x.alone());
        x.person(0, 65535, false);
        Due.due("a KNOWS all, alone SECRET 0", 1, x.alone());
        x.person(15, 1, false);
        Due.due("a KNOWS all, alone SECRET 15", 1, x.alone());
        x.person(1, 0x8002, false);
        Due.due("two KNOW each", 0, x.alone());
    }

    private static void enoughEnds() {
        WhisperPress x = new WhisperPress();
        for (int p = 0; p < 16; p++) {
            x.person(p, 1 << p, false);
        }
        Due.due("enough(0), sixteen", 16, x.enough(0));
        Due.due("enough(1), sixteen", 65535, x.enough(1));
        for (int p = 0; p < 16; p++) {
            x.person(p, 65535, false);
        }
        Due.due("enough(0), any one", 1, x.enough(0));
        Due.due("enough(1), the lowest", 1, x.enough(1));
        for (int p = 0; p < 15; p++) {
            x.person(p, 65534, false);
        }
        Due.due("enough(0), p alone", 1, x.enough(0));
        Due.due("enough(1), p alone", 0x8000, x.enough(1));
    }

    private static void enoughBeyond() {
        for (int what : new int[] {-1, 2, Midst.LEAST, Midst.MOST}) {
            Midst.isRefused("enough(" + what + ")", x -> x.enough(what));
        }
    }
}
