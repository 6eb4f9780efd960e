/** Promises 1, 2, 9, 11, 12, 13: PEOPLE and what they KNOW. */
public final class PeopleTest {
    public static void main(String[] args) {
        newObject();
        persons();
        personIs();
        whose();
        alone();
        enough();
        Due.end();
    }

    private static void newObject() {
        WhisperPress x = new WhisperPress();
        for (int what = 0; what <= 8; what++) {
            Due.due("new: count(" + what + ")", what == 7 ? 1 : 0, x.count(what));
        }
        for (int p = 0; p < 16; p++) {
            Due.due("new: personIs(" + p + ", 0)", -1, x.personIs(p, 0));
        }
        Due.due("new: backNumber(1, 100)", -2, x.backNumber(1, 100));
        Due.due("new: undo()", false, x.undo());
    }

    private static void persons() {
        WhisperPress x = new WhisperPress();
        Due.due("person(-1, 0, true)", false, x.person(-1, 0, true));
        Due.due("person(16, 0, true)", false, x.person(16, 0, true));
        Due.due("person(0, -1, true)", false, x.person(0, -1, true));
        Due.due("person(0, 65536, true)", false, x.person(0, 65536, true));
        Due.due("person(min, max, true)", false, x.person(Integer.MIN_VALUE, Integer.MAX_VALUE, true));
        Due.due("nobody is told", 0, x.count(1));
        Due.due("person(0, 0, false)", true, x.person(0, 0, false));
        Due.due("person(15, 65535, true)", true, x.person(15, 65535, true));
        Due.due("told", 0x8001, x.count(1));
        Due.due("readers", 0x8000, x.count(2));
        Due.due("gossip p=12", 1, Due.gossip(x, "p=12"));
        Due.due("breath", 12, x.personIs(15, 3));
        Due.due("person in place of the one before", true, x.person(15, 5, false));
        Due.due("secrets then", 5, x.personIs(15, 0));
        Due.due("no reader then", 0, x.personIs(15, 2));
        Due.due("breath then", 0, x.personIs(15, 3));
        Due.due("readers then", 0, x.count(2));
    }

    private static void personIs() {
        WhisperPress x = new WhisperPress();
        x.person(3, 0x8421, true);
        Due.due("personIs(3, 0)", 0x8421, x.personIs(3, 0));
        Due.due("personIs(3, 1)", 4, x.personIs(3, 1));
        Due.due("personIs(3, 2)", 1, x.personIs(3, 2));
        Due.due("personIs(3, 3)", 0, x.personIs(3, 3));
        Due.due("personIs(3, 4)", -1, x.personIs(3, 4));
        Due.due("personIs(3, -1)", -1, x.personIs(3, -1));
        Due.due("personIs(2, 0)", -1, x.personIs(2, 0));
        Due.due("personIs(-1, 0)", -1, x.personIs(-1, 0));
        Due.due("personIs(16, 0)", -1, x.personIs(16, 0));
        Due.due("personIs(35, 0)", -1, x.personIs(35, 0));
    }

    private static void whose() {
        WhisperPress x = new WhisperPress();
        x.person(0, 0x8001, false);
        x.person(7, 0x0001, false);
        x.person(15, 0x8000, false);
        Due.due("whose(0)", 0x0081, x.whose(0));
        Due.due("whose(15)", 0x8001, x.whose(15));
        Due.due("whose(1)", 0, x.whose(1));
        Due.due("whose(-1)", -1, x.whose(-1));
        Due.due("whose(16)", -1, x.whose(16));
        Due.due("whose(32)", -1, x.whose(32));
    }

    private static void alone() {
        WhisperPress x = new WhisperPress();
        x.person(0, 0b0011, false);
        x.person(1, 0b0110, false);
        Due.due("alone: both", 0b11, x.alone());
        x.person(2, 0b0001, false);
        Due.due("alone: b", 0b10, x.alone());
        x.person(3, 0b0100, false);
        Due.due("alone: none", 0, x.alone());
        x.person(15, 0x8000, false);
        Due.due("alone: p", 0x8000, x.alone());
    }

    private static void enough() {
        WhisperPress x = new WhisperPress();
        Due.due("enough(0), nobody", 0, x.enough(0));
        x.person(0, 0, false);
        Due.due("enough(1), no secrets", 0, x.enough(1));
        // Greedy would take d first and then need two more.
        x.person(1, 0b000111, false);
        x.person(2, 0b111000, false);
        x.person(3, 0b011110, false);
        Due.due("enough(0)", 2, x.enough(0));
        Due.due("enough(1)", 0b0110, x.enough(1));
        x.person(4, 0b111000, false);
        Due.due("enough(1), like ones", 0b0110, x.enough(1));
        x.person(0, 0b111000, false);
        Due.due("enough(1), the least bits", 0b0011, x.enough(1));
        for (int p = 0; p < 16; p++) {
            x.person(p, 1 << p, false);
        }
        Due.due("enough(0), all", 16, x.enough(0));
        Due.due("enough(1), all", 65535, x.enough(1));
        x.person(15, 65535, false);
        Due.due("enough(0), one", 1, x.enough(0));
        Due.due("enough(1), one", 0x8000, x.enough(1));
        Due.due("enough(2)", -1, x.enough(2));
        Due.due("enough(-1)", -1, x.enough(-1));
    }
}
