/** Promises 14, 15, 16, 18, 19: what all BACK NUMBERS print. */
public final class BackNumbersTest {
    public static void main(String[] args) {
        backNumber();
        twenty();
        blackmail();
        blackmailEdges();
        mostPrinted();
        pair();
        reached();
        Due.end();
    }

    private static WhisperPress press(int people) {
        WhisperPress x = new WhisperPress();
        for (int p = 0; p < people; p++) {
            x.person(p, 0, false);
        }
        return x;
    }

    /** Prints one ISSUE: in each text, who whispers, to whom, which SECRET, as in "abC". */
    private static void prints(WhisperPress x, String... whispers) {
        StringBuilder law = new StringBuilder("h10(1=1)");
        for (String s : whispers) {
            Due.gossip(x, s.charAt(0) + "+" + s.charAt(2) + ";" + s.charAt(1) + "-" + s.charAt(2));
            law.append(";e1(p=").append(s.charAt(0) - 'a').append("&k=").append(s.charAt(1) - 'a').append(")");
        }
        Due.law(x, law.toString());
        Due.due("prints", whispers.length, x.weeks(1));
        for (String s : whispers) {
            Due.gossip(x, s.charAt(0) + "-" + s.charAt(2) + ";" + s.charAt(1) + "-" + s.charAt(2));
        }
    }

    private static void backNumber() {
        WhisperPress x = press(3);
        Due.due("none yet", -2, x.backNumber(1, 0));
        prints(x, "abA", "cbP");
        prints(x);
        prints(x, "bcC");
        Due.due("the last one", 1, x.backNumber(1, 100));
        Due.due("an empty one", 0, x.backNumber(2, 100));
        Due.due("no such WHISPER in it", -4, x.backNumber(2, 0));
        Due.due("the oldest", 2, x.backNumber(3, 100));
        Due.due("none before", -2, x.backNumber(4, 100));
        Due.due("none before, a WHISPER", -2, x.backNumber(20, 47));
        int[] oldest = {0, 1, 0, 2, 1, 15};
        for (int what = 0; what < 6; what++) {
            Due.due("backNumber(3, " + what + ")", oldest[what], x.backNumber(3, what));
        }
        Due.due("no third WHISPER", -4, x.backNumber(3, 6));
        Due.due("no sixteenth WHISPER", -4, x.backNumber(3, 47));
        Due.due("from b", 1, x.backNumber(1, 0));
        for (int what : new int[] {-1, 48, 99, 101, Integer.MIN_VALUE, Integer.MAX_VALUE}) {
            Due.due("backNumber(3, " + what + ")", -1, x.backNumber(3, what));
        }
        for (int i : new int[] {0, -1, 21, Integer.MIN_VALUE, Integer.MAX_VALUE}) {
            Due.due("backNumber(" + i + ", 100)", -1, x.backNumber(i, 100));
        }
    }

    private static void twenty() {
        WhisperPress x = press(2);
        prints(x, "abA");
        prints(x, "abB");
        for (int i = 0; i < 18; i++) {
            prints(x);
        }
        Due.due("20 BACK NUMBERS", 20, x.count(3));
        Due.due("the first one", 0, x.backNumber(20, 2));
        Due.due("both are printed", 2, x.blackmail(3, 0));
        Due.due("the oldest of both", 20, x.blackmail(3, 1));
        Due.due("how often", 2, x.pair(2));
        prints(x);
        Due.due("20 still", 20, x.count(3));
        Due.due("the second one is the oldest", 1, x.backNumber(20, 2));
        Due.due("the first one is gone", -2, x.blackmail(3, 0));
        Due.due("how often then", 1, x.pair(2));
        prints(x);
        Due.due("all are gone", 0, x.mostPrinted(1));
        Due.due("an empty one", 0, x.backNumber(20, 100));
    }

    private static void blackmail() {
        WhisperPress x = press(16);
        prints(x, "abD", "cdE", "efF");
        prints(x, "abA", "cdB", "efC");
        prints(x, "abB", "cdC", "efD", "ghE");
        prints(x, "abA");
        prints(x, "abF");
        Due.due("two will do, not three", 2, x.blackmail(0b111111, 0));
        Due.due("the oldest of the two", 5, x.blackmail(0b111111, 1));
        Due.due("one", 1, x.blackmail(0b000001, 0));
        Due.due("the last one in which it is", 2, x.blackmail(0b000001, 1));
        Due.due("fewer ones go ahead of later ones", 1, x.blackmail(0b000101 & 0b000111, 0));
        Due.due("its place", 4, x.blackmail(0b000101, 1));
        Due.due("F", 1, x.blackmail(0b100000, 1));
        Due.due("A and F", 2, x.blackmail(0b100001, 0));
        Due.due("A and F: the oldest", 2, x.blackmail(0b100001, 1));
        Due.due("not all are printed", -2, x.blackmail(0b1000001, 0));
        Due.due("not all are printed, 1", -2, x.blackmail(65535, 1));
        Due.due("none needed", 0, x.blackmail(0, 0));
        Due.due("none needed: no oldest", 0, x.blackmail(0, 1));
    }

    private static void blackmailEdges() {
        WhisperPress x = press(2);
        for (int secret = 0; secret < 16; secret++) {
            prints(x, "ab" + (char) ('A' + secret));
        }
        Due.due("all sixteen", 16, x.blackmail(65535, 0));
        Due.due("all sixteen: the oldest", 16, x.blackmail(65535, 1));
        Due.due("blackmail(-1, 0)", -1, x.blackmail(-1, 0));
        Due.due("blackmail(65536, 0)", -1, x.blackmail(65536, 0));
        Due.due("blackmail(0, 2)", -1, x.blackmail(0, 2));
        Due.due("blackmail(0, -1)", -1, x.blackmail(0, -1));
    }

    private static void mostPrinted() {
        WhisperPress x = press(5);
        Due.due("nobody", -2, x.mostPrinted(0));
        Due.due("nobody: how often", 0, x.mostPrinted(1));
        prints(x, "adA", "bcB");
        Due.due("of like ones the lowest", 2, x.mostPrinted(0));
        prints(x, "edA");
        Due.due("most often", 3, x.mostPrinted(0));
        prints(x, "baC", "caD", "daE");
        Due.due("a", 0, x.mostPrinted(0));
        prints(x, "abC", "cbD", "dbE", "ebF");
        Due.due("b", 1, x.mostPrinted(0));
        Due.due("b: how often", 4, x.mostPrinted(1));
        Due.due("mostPrinted(2)", -1, x.mostPrinted(2));
        Due.due("mostPrinted(-1)", -1, x.mostPrinted(-1));
        x = press(3);
        Due.gossip(x, "a+A");
        Due.law(x, "e1(k=1&p=0);h10(1=1);m10(1=1)");
        x.weeks(1);
        Due.due("as printed", 2, x.mostPrinted(0));
        Due.due("pair as printed", 2, x.pair(1));
        Due.due("reached as printed", 4, x.reached(0));
    }

    private static void pair() {
        WhisperPress x = press(5);
        Due.due("nothing: from", -2, x.pair(0));
        Due.due("nothing: to", -2, x.pair(1));
        Due.due("nothing: how often", 0, x.pair(2));
        prints(x, "daA", "bcB");
        prints(x, "beC", "daA");
        Due.due("from", 3, x.pair(0));
        Due.due("to", 0, x.pair(1));
        Due.due("how often", 2, x.pair(2));
        prints(x, "beC");
        Due.due("the lowest from", 1, x.pair(0));
        Due.due("its to", 4, x.pair(1));
        prints(x, "bcC");
        Due.due("the lowest to", 2, x.pair(1));
        Due.due("still twice", 2, x.pair(2));
        Due.due("pair(3)", -1, x.pair(3));
        Due.due("pair(-1)", -1, x.pair(-1));
    }

    private static void reached() {
        WhisperPress x = press(16);
        prints(x, "cdA");
        prints(x, "bcA");
        prints(x, "abA");
        Due.due("against the weeks, too", 0b1110, x.reached(0));
        Due.due("from c", 0b1000, x.reached(2));
        Due.due("from d", 0, x.reached(3));
        prints(x, "dbA");
        Due.due("b comes back", 0b1110, x.reached(1));
        prints(x, "beA");
        Due.due("b whispered to two", 0b11110, x.reached(1));
        Due.due("and to two by d", 0b11110, x.reached(3));
        prints(x, "edA");
        Due.due("a does not", 0b11110, x.reached(0));
        Due.due("one who is not printed", 0, x.reached(15));
        Due.due("reached(-1)", -1, x.reached(-1));
        Due.due("reached(16)", -1, x.reached(16));
        Due.due("one who is not told", 0, new WhisperPress().reached(5));
        x = press(16);
        for (int p = 0; p < 15; p++) {
            prints(x, "" + (char) ('a' + p) + (char) ('b' + p) + "A");
        }
        Due.due("the longest way", 0xfffe, x.reached(0));
        prints(x, "paA");
        Due.due("and back", 0xffff, x.reached(9));
    }
}
