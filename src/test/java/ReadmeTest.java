import java.lang.reflect.Method;
import java.lang.reflect.Modifier;
import java.nio.file.Files;
import java.nio.file.Path;

/** That README.md says what the class does: its example, and each row of its answers below 0. */
public final class ReadmeTest {
    private static final int NONE = WhisperPress.NONE;

    private static String page;
    private static int rows = 0;

    public static void main(String[] args) throws Exception {
        page = Files.readString(Path.of("README.md"));
        example();
        refused();
        faults();
        minusTwo();
        minusThreeAndFour();
        checkIsTheOtherWayRound();
        tableHasNoOtherRow();
        eachCallIsNamed();
        Due.end();
    }

    /** The line stands on the page so, and the call in it answers so. */
    private static void line(String text, long want, long got) {
        Due.due("README.md has: " + text, true, page.contains(text));
        Due.due(text, want, got);
    }

    private static void row(String text) {
        rows++;
        Due.due("README.md has the row: " + text, true, page.contains("\n" + text + "\n"));
    }

    private static void example() {
        WhisperPress press = new WhisperPress();
        line("press.person(0, 7, false);", 1, Midst.bit(press.person(0, 7, false)));
        line("press.person(1, 8, true);", 1, Midst.bit(press.person(1, 8, true)));
        int fed = press.feed(0x65392d6b, 0x28313d31, 0x293b6831,
                0x3028313d, 0x31290000);
        line("press.feed(0x65392d6b, 0x28313d31, 0x293b6831,    // e9-k(1=1);h10(1=1)\n"
                + "           0x3028313d, 0x31290000);", 20, fed);
        line("press.law(18);                                    // 2 RULES", 2, press.law(18));
        line("press.weeks(1);                                   // 2 WHISPERS", 2, press.weeks(1));
        line("press.backNumber(1, 100);                         // 2: ", 2, press.backNumber(1, 100));
        line("press.personIs(1, 0);                             // 9: ", 9, press.personIs(1, 0));
    }

    private static void refused() {
        row("| NONE, `false` | all but `check` | no such ones; the tape has not so many bytes; `feed`: it would have"
                + " more than 260; `undo`: none was KEPT | stays |");
        Midst.isRefused("law(241)", x -> x.law(241));
        Midst.isRefused("weeks(101)", x -> x.weeks(101));
        Midst.isRefused("feed behind 260 bytes", x -> x.feed(1, 2, 3, 4, 5));
        Midst.changesNothing("copy(1) of no bytes", 0, NONE, x -> x.copy(1));
        Midst.changesNothing("person(16)", 260, 0, x -> Midst.bit(x.person(16, 1, true)));
        WhisperPress x = new WhisperPress();
        x.feed(1, 2, 3, 4, 5);
        Due.due("undo, none was KEPT", false, x.undo());
        Due.due("the tape behind it", 20, x.count(6));
    }

    private static void faults() {
        row("| -1000 times its number, less its place | `law`, `gossip`, `copy` | a FAULT of the text; THE LAW or COPY"
                + " before stays, nothing is done by GOSSIP | is empty |");
        Due.due("README.md tells a place", true, page.contains("`law` of the text `e9;` answers -1002."));
        Midst.emptiesTapeOnly("law e9;", Due.bytesOf("e9;"), -1002, x -> x.law(3));
        Midst.emptiesTapeOnly("gossip a+B;a>a", Due.bytesOf("a+B;a>a"), -6006, x -> x.gossip(7));
        Midst.emptiesTapeOnly("copy zz_abcdefghijklm", Due.bytesOf("zz_abcdefghijklm"), -2015, x -> x.copy(16));
    }

    private static void minusTwo() {
        row("| -2 | `allKnow` | not in these WEEKS, nobody is told | stays |");
        Midst.changesNothing("allKnow of a SECRET that none KNOWS", 20, -2, x -> x.allKnow(14, 5));
        Due.due("allKnow, nobody is told", -2, new WhisperPress().allKnow(0, 1));
        row("| -2 | `backNumber` | no such BACK NUMBER | stays |");
        Midst.changesNothing("backNumber of 6 weeks ago", 20, -2, x -> x.backNumber(6, 100));
        row("| -2 | `blackmail` | not all are printed | stays |");
        Midst.changesNothing("blackmail", 20, -2, x -> x.blackmail(1 << 14, 0));
        row("| -2 | `mostPrinted` (what 0), `pair` (what 0, 1) | nobody; nothing is printed | stays |");
        WhisperPress x = new WhisperPress();
        x.feed(1, 2, 3, 4, 5);
        Due.due("mostPrinted(0)", -2, x.mostPrinted(0));
        Due.due("mostPrinted(1)", 0, x.mostPrinted(1));
        Due.due("pair(0)", -2, x.pair(0));
        Due.due("pair(1)", -2, x.pair(1));
        Due.due("pair(2)", 0, x.pair(2));
        Due.due("the tape behind them", 20, x.count(6));
        row("| -2 | `hands` | one gets it from no lower one, in more than 15 days | is empty |");
        Midst.emptiesTapeOnly("hands from himself", new int[] {0, 0, 1, 3}, -2, y -> y.hands(2, 0));
        Midst.emptiesTapeOnly("hands in 16 days", new int[] {0, 0, 0, 16}, -2, y -> y.hands(2, 0));
    }

    private static void minusThreeAndFour() {
        row("| -3 | `space` | a notice of 0, above 60 | is empty |");
        Midst.emptiesTapeOnly("space, a notice of 0", new int[] {0, 9}, -3, x -> x.space(1, 255, 0));
        Midst.emptiesTapeOnly("space, a notice of 61", new int[] {61, 9}, -3, x -> x.space(1, 255, 1));
        row("| -3 | `duty` | bounds that do not rise, one of 0 | is empty |");
        Midst.emptiesTapeOnly("duty, like bounds", new int[] {5, 1, 5, 1}, -3, x -> x.duty(0, 2));
        Midst.emptiesTapeOnly("duty, a bound of 0", new int[] {0, 1}, -3, x -> x.duty(0, 1));
        row("| -4 | `backNumber` | no such WHISPER | stays |");
        Midst.changesNothing("backNumber, WHISPER 15", 20, -4, x -> x.backNumber(1, 45));
    }

    private static void checkIsTheOtherWayRound() {
        row("| NONE | `check` | right (else the first that is not so) | is empty |");
        Midst.emptiesTapeOnly("check(0)", new int[] {9}, NONE, x -> x.check(0));
        int his = Midst.press(0).personIs(0, 1);
        int other = Midst.press(0).personIs(1, 1);
        Midst.emptiesTapeOnly("check(3), right", new int[] {his, other, 255}, NONE, x -> x.check(3));
        Midst.emptiesTapeOnly("check(3), b is not so", new int[] {his, other + 1, 0}, 1, x -> x.check(3));
        row("| -2 | `check` | no such n, it has not so many | stays |");
        Midst.changesNothing("check(17)", 260, -2, x -> x.check(17));
        Midst.changesNothing("check(1) of no bytes", 0, -2, x -> x.check(1));
    }

    private static void tableHasNoOtherRow() {
        String table = page.substring(page.indexOf("### Answers below 0"), page.indexOf("## How to run its tests"));
        long lines = table.lines().filter(line -> line.startsWith("| ")).count();
        Due.due("rows of the answers below 0, two of them its head", rows + 2, lines);
    }

    private static void eachCallIsNamed() {
        String table = page.substring(page.indexOf("| calls |"), page.indexOf("### Answers below 0"));
        for (Method m : WhisperPress.class.getDeclaredMethods()) {
            if (Modifier.isPublic(m.getModifiers())) {
                Due.due("README.md names " + m.getName(), true, table.contains("`" + m.getName() + "`"));
            }
        }
    }
}
