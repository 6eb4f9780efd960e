import java.nio.charset.StandardCharsets;

/** What the tests share: a count of wrong answers, and ways to put texts and bytes on the tape. */
final class Due {
    private static int wrong = 0;
    private static int asked = 0;

    private Due() {
    }

    static void due(String call, long want, long got) {
        asked++;
        if (got != want) {
            wrong++;
            System.out.println(call + " answered " + got + ", due is " + want);
        }
    }

    static void due(String call, boolean want, boolean got) {
        due(call, want ? 1 : 0, got ? 1 : 0);
    }

    /** To be called last by each test's main. */
    static void end() {
        System.out.println(wrong == 0 ? asked + " answers are as due" : wrong + " answers are not as due");
        if (wrong != 0) {
            System.exit(1);
        }
    }

    static void feed(WhisperPress x, int... bytes) {
        for (int i = 0; i < bytes.length; i += 20) {
            int[] five = new int[5];
            for (int j = 0; j < 20; j++) {
                int b = i + j < bytes.length ? bytes[i + j] : 0;
                five[j / 4] |= b << (24 - 8 * (j % 4));
            }
            x.feed(five[0], five[1], five[2], five[3], five[4]);
        }
    }

    static int[] bytesOf(String text) {
        byte[] raw = text.getBytes(StandardCharsets.ISO_8859_1);
        int[] bytes = new int[raw.length];
        for (int i = 0; i < raw.length; i++) {
            bytes[i] = raw[i] & 255;
        }
        return bytes;
    }

    static int law(WhisperPress x, String text) {
        feed(x, bytesOf(text));
        return x.law(text.length());
    }

    static int gossip(WhisperPress x, String text) {
        feed(x, bytesOf(text));
        return x.gossip(text.length());
    }

    static int copy(WhisperPress x, String text) {
        feed(x, bytesOf(text));
        return x.copy(text.length());
    }
}
