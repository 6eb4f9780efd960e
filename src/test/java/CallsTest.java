/** "An object is used for at most 512 calls after it has been made": the last of them is answered like the first. */
public final class CallsTest {
    private static final int MOST = 512;

    public static void main(String[] args) {
        sameQuestion();
        sameTrial();
        texts();
        lawAfterLaw();
        fedAndTaken();
        weekByWeek();
        keptAndUndone();
        refused();
        Due.end();
    }

    private static WhisperPress sixteen() {
        WhisperPress x = new WhisperPress();
        for (int p = 0; p < 16; p++) {
            x.person(p, 1 << p, p % 3 == 0);
        }
        return x;
    }

    private static void sameQuestion() {
        WhisperPress x = sixteen();
        for (int call = 16; call < MOST; call++) {
            Due.due("call " + call, 65535, x.enough(1));
        }
    }

    private static void sameTrial() {
        WhisperPress x = sixteen();
        Due.law(x, "e1(1=1);h9(1=1);m3(1=1)");
        int due = x.tried(100, 0);
        Due.due("something is printed", true, due > 0);
        for (int call = 20; call < MOST; call++) {
            Due.due("call " + call, due, x.tried(100, 0));
        }
    }

    private static void texts() {
        WhisperPress x = new WhisperPress();
        x.person(0, 0, false);
        for (int call = 1; call + 8 <= MOST; call += 6) {
            boolean isWhole = call % 4 == 1;
            int due = isWhole ? 2 : -1006;
            Due.due("law at call " + call, due, Due.law(x, isWhole ? "r(1=1);r(1=2)" : "r(1=1)x"));
            Due.due("copy at call " + call, 3, Due.copy(x, "2ab_c"));
            Due.due("gossip at call " + call, 2, Due.gossip(x, "a!;a=" + call));
        }
        Due.due("RULES", 2, x.count(5));
        Due.due("BREATH", 499, x.personIs(0, 3));
    }

    /** Each LAW in place of the one before is asked. */
    private static void lawAfterLaw() {
        WhisperPress x = new WhisperPress();
        x.person(0, 1, false);
        x.person(1, 0, false);
        for (int call = 2; call + 6 <= MOST; call += 6) {
            int due = call / 6 % 2;
            Due.due("law at call " + call, 2, Due.law(x, "e1(" + "1=1&".repeat(10) + "1=" + due + ");h10(1=1)"));
            Due.due("asked at call " + call, due, x.tried(1, 0));
        }
    }

    private static void fedAndTaken() {
        WhisperPress x = new WhisperPress();
        for (int call = 0; call + 2 <= MOST; call += 2) {
            Due.due("feed at call " + call, 20, x.feed(0x05040302, 0x01000000, 0, 0, 0));
            Due.due("nuns at call " + call, 8, x.nuns(5, 2));
        }
    }

    private static void weekByWeek() {
        WhisperPress x = new WhisperPress();
        for (int call = 0; call + 1 < MOST; call++) {
            Due.due("weeks(1)", 0, x.weeks(1));
        }
        Due.due("THE WEEK", MOST - 1, x.count(0));
        x = new WhisperPress();
        for (int call = 0; call + 1 < MOST; call++) {
            Due.due("weeks(100)", 0, x.weeks(100));
        }
        Due.due("THE WEEK is the last one", 9999, x.count(0));
    }

    private static void keptAndUndone() {
        WhisperPress x = sixteen();
        Due.law(x, "e1(1=1);h9(1=1)");
        for (int call = 19; call + 4 <= MOST; call += 4) {
            int week = (call - 19) / 4;
            Due.due("keep at call " + call, week, x.keep());
            x.weeks(2);
            Due.due("undo at call " + call, true, x.undo());
            x.weeks(1);
        }
        Due.due("THE WEEK", (MOST - 19) / 4, x.count(0));
    }

    private static void refused() {
        WhisperPress x = sixteen();
        for (int call = 16; call + 1 < MOST; call++) {
            Due.due("call " + call, -1, x.weeks(0));
        }
        Due.due("nothing is changed", 0, x.count(0));
    }
}
