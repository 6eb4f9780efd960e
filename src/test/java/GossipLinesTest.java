/** Terms: what each LINE of GOSSIP does, and that it does nothing else. */
public final class GossipLinesTest {
    private final WhisperPress x = new WhisperPress();
    private final int[] secrets = new int[16];
    private final int[] breath = new int[16];
    private int readers = 0;

    public static void main(String[] args) {
        secretsOfEach();
        readersOfEach();
        breathOfEach();
        othersOfEach();
        inOneText();
        Due.end();
    }

    /** All are told; each KNOWS other SECRETS and has another BREATH. */
    private GossipLinesTest() {
        for (int p = 0; p < 16; p++) {
            secrets[p] = 0x8421 * (p + 3) & 65535;
            x.person(p, secrets[p], p % 2 == 0);
            readers |= p % 2 == 0 ? 1 << p : 0;
        }
        StringBuilder text = new StringBuilder();
        for (int p = 0; p < 16; p++) {
            breath[p] = 100 * p + 7;
            text.append(p == 0 ? "" : ";").append(letter('a', p)).append('=').append(breath[p]);
        }
        Due.due("BREATH of all", 16, Due.gossip(x, text.toString()));
    }

    private static char letter(char first, int i) {
        return (char) (first + i);
    }

    private void says(String text, int lines) {
        Due.due("gossip " + text, lines, Due.gossip(x, text));
        for (int p = 0; p < 16; p++) {
            Due.due(text + ": SECRETS of " + p, secrets[p], x.personIs(p, 0));
            Due.due(text + ": BREATH of " + p, breath[p], x.personIs(p, 3));
        }
        Due.due(text + ": READERS", readers, x.count(2));
        Due.due(text + ": told", 65535, x.count(1));
        Due.due(text + ": THE WEEK", 0, x.count(0));
        Due.due(text + ": X", 1, x.count(7));
    }

    private static void secretsOfEach() {
        for (int secret = 0; secret < 16; secret++) {
            for (int p = 0; p < 16; p += 5) {
                GossipLinesTest one = new GossipLinesTest();
                one.secrets[p] |= 1 << secret;
                one.says(letter('a', p) + "+" + letter('A', secret), 1);
                one.secrets[p] &= ~(1 << secret);
                one.says(letter('a', p) + "-" + letter('A', secret), 1);
                one.says(letter('a', p) + "-" + letter('A', secret), 1);
                one.secrets[p] |= 1 << secret;
                one.says(letter('a', p) + "+" + letter('A', secret), 1);
                one.says(letter('a', p) + "+" + letter('A', secret), 1);
            }
        }
    }

    private static void readersOfEach() {
        for (int p = 0; p < 16; p++) {
            GossipLinesTest one = new GossipLinesTest();
            for (int i = 0; i < 2; i++) {
                one.readers |= 1 << p;
                one.says(letter('a', p) + "!", 1);
                one.says(letter('a', p) + "!", 1);
                one.readers &= ~(1 << p);
                one.says(letter('a', p) + "?", 1);
                one.says(letter('a', p) + "?", 1);
            }
        }
    }

    private static void breathOfEach() {
        for (int p = 0; p < 16; p++) {
            GossipLinesTest one = new GossipLinesTest();
            for (String number : new String[] {"0", "9", "10", "999", "1000", "9999", "0000", "0042", "007"}) {
                one.breath[p] = Integer.parseInt(number);
                one.says(letter('a', p) + "=" + number, 1);
            }
        }
    }

    /** "the other one KNOWS all that he KNOWS", and what he knew before. */
    private static void othersOfEach() {
        for (int p = 0; p < 16; p++) {
            for (int other = 0; other < 16; other += 3) {
                if (p != other) {
                    GossipLinesTest one = new GossipLinesTest();
                    one.secrets[other] |= one.secrets[p];
                    one.says(letter('a', p) + ">" + letter('a', other), 1);
                    one.says(letter('a', p) + ">" + letter('a', other), 1);
                }
            }
        }
    }

    /** LINES are done from the left, each as it is then. */
    private static void inOneText() {
        GossipLinesTest one = new GossipLinesTest();
        one.secrets[2] |= one.secrets[1] | one.secrets[0];
        one.secrets[1] |= one.secrets[0];
        one.says("a>b;b>c", 2);
        one = new GossipLinesTest();
        one.secrets[2] |= one.secrets[1];
        one.secrets[1] |= one.secrets[0];
        one.says("b>c;a>b", 2);
        one = new GossipLinesTest();
        one.breath[4] = 3;
        one.readers &= ~16;
        one.secrets[4] &= ~1;
        one.says("e=1;e=2;e=3;e!;e?;e+A;e-A", 7);
    }
}
