import java.util.Arrays;

/** Promises 3 to 6: the tape's bound, how many bytes of it a text may have, and what stays of it. */
public final class BoundsOfTextsTest {
    private static final String LAW_240 = "r(" + "1+".repeat(117) + "1=1)";
    private static final String GOSSIP_120 = "a=1234;".repeat(16) + "a=123;a!";
    private static final String COPY_200 = "abcdefghijkl_".repeat(15) + "abcde";

    public static void main(String[] args) {
        feedTill260();
        eachByteHasItsPlace();
        highBytes();
        lawEnds();
        lawBeyond();
        gossipEnds();
        gossipBeyond();
        copyEnds();
        copyBeyond();
        firstBytesAlone();
        lawCutAnywhere();
        gossipCutAnywhere();
        copyCutAnywhere();
        Due.end();
    }

    private static void feedTill260() {
        WhisperPress x = new WhisperPress();
        for (int bytes = 20; bytes <= 260; bytes += 20) {
            Due.due("feed", bytes, x.feed(1, 2, 3, 4, 5));
            Due.due("bytes of the tape", bytes, x.count(6));
        }
        Due.due("more than 260", -1, x.feed(1, 2, 3, 4, 5));
        Due.due("260 still", 260, x.count(6));
        Midst.isRefused("feed on a full tape", y -> y.feed(1, 2, 3, 4, 5));
        Midst.isRefused("feed on a full tape, no bits", y -> y.feed(0, 0, 0, 0, 0));
        Midst.isRefused("feed on a full tape, all bits", y -> y.feed(-1, -1, -1, -1, -1));
        x.check(0);
        Due.due("from the start again", 20, x.feed(0, 0, 0, 0, 0));
    }

    /** COPY of 200 bytes in which one sign can't stand tells by its FAULT where that byte came. */
    private static void eachByteHasItsPlace() {
        for (int place = 0; place < 200; place++) {
            int[] bytes = Due.bytesOf(COPY_200);
            bytes[place] = '!';
            WhisperPress x = new WhisperPress();
            Due.feed(x, bytes);
            Due.due("a ! at " + place, -1000 - place, x.copy(200));
        }
    }

    private static void highBytes() {
        for (int place = 0; place < 4; place++) {
            int[] bytes = new int[12];
            bytes[place] = 255;
            WhisperPress x = new WhisperPress();
            Due.feed(x, bytes);
            Due.due("the nearest is the other one", 1, x.style(2, 0));
            Due.feed(x, 0, 0, 0, 0, 0, 0, 0, 0, bytes[0], bytes[1], bytes[2], bytes[3]);
            Due.due("a text of 255 at " + place, 255, x.style(2, 1));
        }
    }

    private static void lawEnds() {
        Due.due("240 bytes", 240, LAW_240.length());
        WhisperPress x = new WhisperPress();
        Due.due("law(240)", 1, Due.law(x, LAW_240));
        Due.due("law(6), the shortest", 1, Due.law(x, "r(1=1)"));
        Due.due("law(1)", -1001, Due.law(x, "r"));
        Due.due("the tape is empty behind a FAULT", 0, x.count(6));
        Due.feed(x, Due.bytesOf(LAW_240));
        x.feed(0, 0, 0, 0, 0);
        Due.due("law(240) of 260", 1, x.law(240));
        Due.due("the tape is empty", 0, x.count(6));
    }

    private static void lawBeyond() {
        for (int n : new int[] {0, -1, 241, 260, 261, Midst.LEAST, Midst.MOST}) {
            Midst.isRefused("law(" + n + ")", x -> x.law(n));
        }
        Midst.changesNothing("law(21) of 20 bytes", 20, -1, x -> x.law(21));
        Midst.changesNothing("law(240) of 20 bytes", 20, -1, x -> x.law(240));
        Midst.changesNothing("law(1) of none", 0, -1, x -> x.law(1));
        Midst.emptiesTapeOnly("a LAW with a FAULT", Due.bytesOf("h10(1=1);x"), -1009, x -> x.law(10));
    }

    private static void gossipEnds() {
        Due.due("120 bytes", 120, GOSSIP_120.length());
        WhisperPress x = new WhisperPress();
        x.person(0, 1, false);
        Due.due("gossip(120)", 18, Due.gossip(x, GOSSIP_120));
        Due.due("its last LINE", 1, x.personIs(0, 2));
        Due.due("gossip(2), the shortest", 1, Due.gossip(x, "a?"));
        Due.due("gossip(1)", -1001, Due.gossip(x, "a"));
        Due.due("the tape is empty behind a FAULT", 0, x.count(6));
        Due.feed(x, Due.bytesOf(GOSSIP_120));
        x.feed(0, 0, 0, 0, 0);
        Due.due("gossip(120) of 140", 18, x.gossip(120));
        Due.due("the tape is empty", 0, x.count(6));
    }

    private static void gossipBeyond() {
        for (int n : new int[] {0, -1, 121, 260, 261, Midst.LEAST, Midst.MOST}) {
            Midst.isRefused("gossip(" + n + ")", x -> x.gossip(n));
        }
        Midst.changesNothing("gossip(21) of 20 bytes", 20, -1, x -> x.gossip(21));
        Midst.changesNothing("gossip(120) of 20 bytes", 20, -1, x -> x.gossip(120));
        Midst.changesNothing("gossip(1) of none", 0, -1, x -> x.gossip(1));
        String done = "a+P;a-A;a!;b!;a=5;a>b;c!";
        Midst.emptiesTapeOnly("GOSSIP with a FAULT", Due.bytesOf(done), -7022, x -> x.gossip(done.length()));
    }

    private static void copyEnds() {
        Due.due("200 bytes", 200, COPY_200.length());
        WhisperPress x = new WhisperPress();
        Due.due("copy(200)", 16, Due.copy(x, COPY_200));
        Due.due("copy(1)", 1, Due.copy(x, "a"));
        Due.due("copy(1), no letter", -1000, Due.copy(x, "_"));
        Due.due("the tape is empty behind a FAULT", 0, x.count(6));
        Due.feed(x, Due.bytesOf(COPY_200));
        x.feed(0, 0, 0, 0, 0);
        Due.due("copy(200) of 220", 16, x.copy(200));
        Due.due("the tape is empty", 0, x.count(6));
    }

    private static void copyBeyond() {
        for (int n : new int[] {0, -1, 201, 260, 261, Midst.LEAST, Midst.MOST}) {
            Midst.isRefused("copy(" + n + ")", x -> x.copy(n));
        }
        Midst.changesNothing("copy(21) of 20 bytes", 20, -1, x -> x.copy(21));
        Midst.changesNothing("copy(200) of 20 bytes", 20, -1, x -> x.copy(200));
        Midst.changesNothing("copy(1) of none", 0, -1, x -> x.copy(1));
        Midst.emptiesTapeOnly("COPY with a FAULT", Due.bytesOf("9zz_y_"), -1006, x -> x.copy(6));
    }

    /** Bytes behind the first n are neither read nor kept. */
    private static void firstBytesAlone() {
        int[] bytes = new int[20];
        Arrays.fill(bytes, '!');
        bytes[0] = 'q';
        WhisperPress x = new WhisperPress();
        Due.feed(x, bytes);
        Due.due("the first byte alone", 1, x.copy(1));
        Due.due("no byte is left", 0, x.count(6));
        Due.due("so none can be read", -1, x.copy(1));
        x.person(0, 0, false);
        Due.feed(x, Due.bytesOf("a!?"));
        Due.due("two bytes of GOSSIP", 1, x.gossip(2));
        Due.feed(x, Due.bytesOf("r(1=1)x"));
        Due.due("six bytes of THE LAW", 1, x.law(6));
    }

    /** A LAW, cut behind each of its bytes: the bytes behind are not read, be they fed with it or before it. */
    private static void lawCutAnywhere() {
        String text = "e12345+[p*2]%k(!(1=1|b<3)&w>0);h10(12345=1);r(p=1)";
        for (int n = 1; n <= text.length(); n++) {
            int due = n == text.length() ? 3 : n == 30 ? 1 : n == 43 ? 2 : -1000 - n;
            WhisperPress x = new WhisperPress();
            Due.feed(x, Due.bytesOf(text));
            Due.due("law(" + n + ") of " + text, due, x.law(n));
            Due.feed(x, Due.bytesOf(text));
            x.check(0);
            Due.due("law(" + n + ") on bytes that were there", due, Due.law(x, text.substring(0, n)));
        }
    }

    private static void gossipCutAnywhere() {
        String text = "a+A;a>b;a=1234;b!;a-B";
        int[] whole = {3, 1, 7, 2, 11, 3, 12, 3, 13, 3, 14, 3, 17, 4, 21, 5};
        for (int n = 1; n <= text.length(); n++) {
            int due = -1000 - n;
            for (int i = 0; i < whole.length; i += 2) {
                due = n == whole[i] ? whole[i + 1] : due;
            }
            WhisperPress x = new WhisperPress();
            x.person(0, 0, false);
            x.person(1, 0, false);
            Due.feed(x, Due.bytesOf(text));
            Due.due("gossip(" + n + ") of " + text, due, x.gossip(n));
            int breath = n < 11 || due < 0 ? 0 : Integer.parseInt(text.substring(10, Math.min(n, 14)));
            Due.due("BREATH by the first " + n, breath, x.personIs(0, 3));
            Due.due("gossip(" + n + ") on bytes that were there", due, Due.gossip(x, text.substring(0, n)));
        }
    }

    private static void copyCutAnywhere() {
        String text = "abcdefghijkl_3bcd_4e_fghij";
        int[] words = {1, 1, 1, 1, 1, 1, 1, 1, 1, 1, 1, 1, 0, 0, 4, 4, 4, 0, 0, 8, 0, 9, 9, 9, 9, 9};
        int[] letters = {1, 2, 3, 4, 5, 6, 7, 8, 9, 10, 11, 12, 0, 0, 15, 18, 21, 0, 0, 25, 0, 26, 27, 28, 29, 30};
        for (int n = 1; n <= text.length(); n++) {
            int due = words[n - 1] == 0 ? -1000 - n : words[n - 1];
            WhisperPress x = new WhisperPress();
            Due.feed(x, Due.bytesOf(text));
            Due.due("copy(" + n + ") of " + text, due, x.copy(n));
            Due.due("letters of the first " + n, letters[n - 1], x.copyIs(0));
            Due.due("copy(" + n + ") on bytes that were there", due, Due.copy(x, text.substring(0, n)));
        }
    }
}
