/** Promise 1 and Terms: nobody told, no COPY, no LAW, no BACK NUMBER, nothing printed. */
public final class NothingTest {
    public static void main(String[] args) {
        newCounts();
        nobodyTold();
        nobodyToldTape();
        nobodyToldGossip();
        noCopy();
        noLaw();
        noBackNumber();
        nothingPrinted();
        nothingNeeded();
        emptyTape();
        Due.end();
    }

    private static void newCounts() {
        WhisperPress x = new WhisperPress();
        for (int what = 0; what <= 8; what++) {
            Due.due("count(" + what + ")", what == 7 ? 1 : 0, x.count(what));
        }
        WhisperPress y = new WhisperPress();
        y.person(0, 1, true);
        Due.due("another object is not changed", 0, x.count(1));
    }

    private static void nobodyTold() {
        WhisperPress x = new WhisperPress();
        Due.law(x, "e1(1=1);h10(1=1)");
        for (int p = 0; p < 16; p++) {
            Due.due("personIs(" + p + ", 0)", -1, x.personIs(p, 0));
            Due.due("whose(" + p + ")", 0, x.whose(p));
            Due.due("tried(1, 100 + " + p + ")", -1, x.tried(1, 100 + p));
            Due.due("allKnow(" + p + ", 5)", -2, x.allKnow(p, 5));
            Due.due("reached(" + p + ")", 0, x.reached(p));
        }
        for (int what = 0; what <= 3; what++) {
            Due.due("tried(100, " + what + ")", 0, x.tried(100, what));
        }
        Due.due("alone()", 0, x.alone());
        Due.due("enough(0)", 0, x.enough(0));
        Due.due("enough(1)", 0, x.enough(1));
        Due.due("silent(100)", 100, x.silent(100));
        Due.due("weeks(7)", 0, x.weeks(7));
        Due.due("ISSUES are printed all the same", 7, x.count(3));
        Due.due("no DRAW", 1, x.count(7));
    }

    private static void nobodyToldTape() {
        WhisperPress x = new WhisperPress();
        Due.feed(x, 1, 1);
        Due.due("duty(0, 1)", -1, x.duty(0, 1));
        Due.due("the tape stays", 20, x.count(6));
        Due.due("check(1) is not 255", 0, x.check(1));
        Due.feed(x, 255);
        Due.due("check(1) is 255", -1, x.check(1));
    }

    private static void nobodyToldGossip() {
        WhisperPress x = new WhisperPress();
        for (char p = 'a'; p <= 'p'; p++) {
            Due.due("gossip " + p + "!", -7000, Due.gossip(x, p + "!"));
        }
        Due.due("gossip q!", -1000, Due.gossip(x, "q!"));
        x.person(3, 0, false);
        Due.due("gossip d>e", -7002, Due.gossip(x, "d>e"));
        Due.due("nobody is told by GOSSIP", 8, x.count(1));
    }

    private static void noCopy() {
        WhisperPress x = new WhisperPress();
        for (int what = 0; what <= 2; what++) {
            Due.due("set(12, " + what + ")", 0, x.set(12, what));
            Due.due("set(60, " + what + ")", 0, x.set(60, what));
            Due.due("copyIs(" + what + ")", 0, x.copyIs(what));
        }
        Due.due("lineOf(12, 0)", -1, x.lineOf(12, 0));
        Due.due("lineOf(60, 0)", -1, x.lineOf(60, 0));
        for (int letter = 0; letter < 26; letter++) {
            Due.due("type(" + letter + ")", 0, x.type(letter));
        }
        Due.due("bought(0)", 0, x.bought(0));
        Due.due("bought(255)", 0, x.bought(255));
        Due.due("a COPY with a FAULT", -1003, Due.copy(x, "ab_"));
        Due.due("no COPY still: WORDS", 0, x.count(4));
        Due.due("no COPY still: letters", 0, x.copyIs(0));
        Due.due("no COPY still: lines", 0, x.set(12, 1));
    }

    private static void noLaw() {
        WhisperPress x = new WhisperPress();
        x.person(0, 1, true);
        x.person(1, 0, true);
        Due.due("no RULES", 0, x.count(5));
        Due.due("nobody whispers", 0, x.weeks(10));
        Due.due("no DRAW", 1, x.count(7));
        Due.due("nothing is read", 0, x.personIs(1, 0));
        Due.due("all is silent", 10, x.silent(10));
        Due.due("a LAW with a FAULT", -1013, Due.law(x, "e1(1=1);h10(1"));
        Due.due("no LAW still", 0, x.count(5));
        Due.due("nobody whispers still", 0, x.weeks(1));
        Due.due("a LAW without e", 1, Due.law(x, "h10(1=1)"));
        Due.due("nobody whispers without e", 0, x.weeks(1));
        Due.due("a LAW without h", 1, Due.law(x, "e9(1=1)"));
        Due.due("nobody whispers without h", 0, x.weeks(1));
        Due.due("a LAW without m", 2, Due.law(x, "e9(1=1);h10(1=1)"));
        Due.due("no misprints without m", 0, x.tried(1, 1));
        Due.due("one whispers", 1, x.weeks(1));
    }

    private static void noBackNumber() {
        WhisperPress x = new WhisperPress();
        x.person(0, 1, true);
        for (int i = 1; i <= 20; i++) {
            Due.due("backNumber(" + i + ", 100)", -2, x.backNumber(i, 100));
            Due.due("backNumber(" + i + ", 0)", -2, x.backNumber(i, 0));
        }
        isUnprinted(x);
    }

    /** ISSUES in which nothing is printed. */
    private static void nothingPrinted() {
        WhisperPress x = new WhisperPress();
        x.person(0, 1, true);
        x.weeks(25);
        for (int i = 1; i <= 20; i++) {
            Due.due("backNumber(" + i + ", 100)", 0, x.backNumber(i, 100));
            Due.due("backNumber(" + i + ", 0)", -4, x.backNumber(i, 0));
        }
        isUnprinted(x);
    }

    private static void isUnprinted(WhisperPress x) {
        Due.due("blackmail(0, 0)", 0, x.blackmail(0, 0));
        Due.due("blackmail(0, 1)", 0, x.blackmail(0, 1));
        Due.due("blackmail(1, 0)", -2, x.blackmail(1, 0));
        Due.due("blackmail(65535, 1)", -2, x.blackmail(65535, 1));
        Due.due("mostPrinted(0)", -2, x.mostPrinted(0));
        Due.due("mostPrinted(1)", 0, x.mostPrinted(1));
        Due.due("pair(0)", -2, x.pair(0));
        Due.due("pair(1)", -2, x.pair(1));
        Due.due("pair(2)", 0, x.pair(2));
        for (int p = 0; p < 16; p++) {
            Due.due("reached(" + p + ")", 0, x.reached(p));
        }
    }

    private static void nothingNeeded() {
        WhisperPress x = new WhisperPress();
        for (int p = 0; p < 16; p++) {
            x.person(p, 0, true);
        }
        Due.due("none KNOWS any: enough(0)", 0, x.enough(0));
        Due.due("none KNOWS any: enough(1)", 0, x.enough(1));
        Due.due("none KNOWS any: alone()", 0, x.alone());
        Due.due("none KNOWS any: tried(1, 2)", 0, x.tried(1, 2));
        Due.due("none KNOWS any: tried(1, 3)", 0, x.tried(1, 3));
        Due.law(x, "e1(1=1);h10(1=1)");
        Due.due("nobody has what to whisper", 0, x.weeks(1));
        Due.due("no DRAW", 1, x.count(7));
    }

    private static void emptyTape() {
        WhisperPress x = new WhisperPress();
        x.person(0, 0, false);
        Due.due("law(1)", -1, x.law(1));
        Due.due("gossip(1)", -1, x.gossip(1));
        Due.due("copy(1)", -1, x.copy(1));
        Due.due("nuns(1, 2)", -1, x.nuns(1, 2));
        Due.due("space(1, 9, 0)", -1, x.space(1, 9, 0));
        Due.due("style(2, 0)", -1, x.style(2, 0));
        Due.due("names(1, 1)", -1, x.names(1, 1));
        Due.due("duty(0, 1)", -1, x.duty(0, 1));
        Due.due("hands(2, 0)", -1, x.hands(2, 0));
        Due.due("check(1)", -2, x.check(1));
        Due.due("check(0)", -1, x.check(0));
    }
}
