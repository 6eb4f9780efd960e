import java.util.Random;

/** Runs of drawn calls, each answer held against the Model; the draws are the same each time. */
public final class RandomRunsTest {
    private static final String LETTERS = "pknoubdwc";
    /** An object is used for so many calls; one step of a run makes a part of them, counts() at the end some more. */
    private static final int MOST_CALLS = 512;
    private static final int MOST_AT_ONCE = 40;

    private final Random random;
    private final WhisperPress x = new WhisperPress();
    private final Model model = new Model();
    private final int run;
    private int asked = 0;

    private RandomRunsTest(int run) {
        this.run = run;
        random = new Random(run);
    }

    public static void main(String[] args) {
        int runs = args.length > 0 ? Integer.parseInt(args[0]) : 200;
        int from = args.length > 1 ? Integer.parseInt(args[1]) : 0;
        for (int run = from; run < from + runs; run++) {
            RandomRunsTest one = new RandomRunsTest(run);
            int people = one.below(20);
            for (int i = 0; i < people; i++) {
                one.person();
            }
            one.law();
            int calls = 20 + one.below(MOST_CALLS);
            while (one.asked < Math.min(calls, MOST_CALLS - MOST_AT_ONCE)) {
                one.call();
            }
            one.counts();
            Due.due("no more calls than an object is used for", true, one.asked <= MOST_CALLS);
        }
        Due.end();
    }

    private int below(int n) {
        return random.nextInt(n);
    }

    private boolean isOne(int in) {
        return below(in) == 0;
    }

    /** Mostly within the bounds, now and then at or beyond one of them. */
    private int about(int least, int most) {
        if (isOne(20)) {
            int[] edges = {least, most, least - 1, most + 1, Integer.MIN_VALUE, Integer.MAX_VALUE};
            return edges[below(edges.length)];
        }
        return least + below(most - least + 1);
    }

    private void due(String call, long want, long got) {
        asked++;
        Due.due("run " + run + ": " + call, want, got);
    }

    private void person() {
        int p = about(0, 15);
        int secrets = isOne(3) ? about(0, 65535) : below(65536) & below(65536) & below(65536);
        if (isOne(3)) {
            secrets = 1 << below(16);
        }
        boolean reader = isOne(2);
        due("person", model.person(p, secrets, reader) ? 1 : 0, x.person(p, secrets, reader) ? 1 : 0);
    }

    private void put(int[] bytes) {
        for (int i = 0; i < bytes.length; i += 20) {
            int[] five = new int[5];
            for (int j = 0; j < 20; j++) {
                int b = i + j < bytes.length ? bytes[i + j] : 'a';
                five[j / 4] |= b << (24 - 8 * (j % 4));
            }
            due("feed", model.feed(five[0], five[1], five[2], five[3], five[4]),
                    x.feed(five[0], five[1], five[2], five[3], five[4]));
        }
    }

    private void call() {
        switch (below(26)) {
            case 0 -> law();
            case 1, 2 -> gossip();
            case 3 -> copy();
            case 4, 23 -> person();
            case 5, 6, 24 -> weeks();
            case 7, 8 -> tries();
            case 9 -> people();
            case 10, 11 -> issues();
            case 12, 13 -> setting();
            case 14 -> nuns();
            case 15 -> space();
            case 16 -> style();
            case 17 -> names();
            case 18 -> duty();
            case 19 -> hands();
            case 20 -> check();
            case 21 -> keeps();
            case 22 -> counts();
            default -> leftOnTape();
        }
    }

    /** Bytes that stay, so that later calls find a tape that is not empty. */
    private void leftOnTape() {
        if (isOne(4)) {
            put(bytes(1 + below(80), 256));
        }
    }

    private int[] bytes(int n, int most) {
        int[] b = new int[n];
        for (int i = 0; i < n; i++) {
            b[i] = below(most);
        }
        return b;
    }

    // ---- texts

    private String mutated(String text, String signs) {
        if (!isOne(4) || text.isEmpty()) {
            return text;
        }
        int i = below(text.length());
        char sign = isOne(8) ? (char) below(256) : signs.charAt(below(signs.length()));
        return switch (below(4)) {
            case 0 -> text.substring(0, i);
            case 1 -> text.substring(0, i) + text.substring(i + 1);
            case 2 -> text.substring(0, i) + sign + text.substring(i);
            default -> text.substring(0, i) + sign + text.substring(i + 1);
        };
    }

    private int lengthOf(String text) {
        return isOne(30) ? about(0, 260) : text.length();
    }

    private void law() {
        StringBuilder b = new StringBuilder();
        if (!isOne(6)) {
            b.append(isOne(2) ? "e9-k(" : "e1+u*[k+p]%7(").append(isOne(2) ? "1=1" : c(1)).append(");");
            b.append("h").append(isOne(2) ? "10" : "1+b%9").append("(").append(isOne(2) ? "1=1" : c(1)).append(")");
        }
        int rules = isOne(12) ? 18 : below(5);
        for (int i = 0; i < rules; i++) {
            char kind = "ehmr".charAt(below(4));
            b.append(b.length() == 0 ? "" : ";").append(kind);
            String short1 = LETTERS.charAt(below(9)) + "";
            b.append(kind == 'r' ? "" : rules == 18 ? short1 : e(0));
            b.append("(").append(rules == 18 ? short1 + "<3" : isOne(8) ? deep() : c(1)).append(")");
        }
        String text = mutated(b.toString(), "ehmrpknoubdwc0123456789+-*/%<>=!&|()[];");
        if (text.length() > 250) {
            text = text.substring(0, 240);
        }
        int n = lengthOf(text);
        put(Due.bytesOf(text));
        due("law " + text, model.law(n), x.law(n));
    }

    /** About as many of ( [ ! in one another as may be. */
    private String deep() {
        StringBuilder b = new StringBuilder();
        int open = 1 + below(6);
        int parentheses = 0;
        for (int i = 1; i < open; i++) {
            boolean not = isOne(2);
            parentheses += not ? 0 : 1;
            b.append(not ? "!" : "(");
        }
        int brackets = Math.max(0, 5 + below(3) - open);
        b.append("[".repeat(brackets)).append(LETTERS.charAt(below(9))).append("]".repeat(brackets));
        return b.append("<").append(e(open)).append(")".repeat(parentheses)).toString();
    }

    private String c(int open) {
        StringBuilder b = new StringBuilder(test(open));
        while (isOne(3)) {
            b.append(isOne(2) ? "&" : "|").append(test(open));
        }
        return b.toString();
    }

    private String test(int open) {
        if (isOne(4) && (open < 6 || isOne(9))) {
            return isOne(2) ? "!" + test(open + 1) : "(" + c(open + 1) + ")";
        }
        return e(open) + "<>=".charAt(below(3)) + e(open);
    }

    private String e(int open) {
        StringBuilder b = new StringBuilder(factor(open));
        while (isOne(3)) {
            b.append("+-*/%".charAt(below(5))).append(factor(open));
        }
        return b.toString();
    }

    private String factor(int open) {
        if (isOne(5) && (open < 6 || isOne(9))) {
            return "[" + e(open + 1) + "]";
        }
        if (isOne(3)) {
            return "" + (isOne(4) ? below(isOne(5) ? 1000000 : 100000) : below(8));
        }
        return "" + LETTERS.charAt(below(9));
    }

    private char letter(char first, int many) {
        return (char) (first + below(many));
    }

    private void gossip() {
        StringBuilder b = new StringBuilder();
        int told = model.count(1);
        int lines = isOne(8) ? 19 + below(3) : 1 + below(5);
        for (int i = 0; i < lines; i++) {
            b.append(i == 0 ? "" : ";").append(toldLetter(told));
            switch (below(lines > 10 ? 5 : 7)) {
                case 0 -> b.append("!");
                case 1 -> b.append("?");
                case 2 -> b.append("+").append(letter('A', 16));
                case 3, 4 -> b.append("-").append(letter('A', 16));
                case 5 -> b.append(">").append(toldLetter(told));
                default -> b.append("=").append(below(isOne(5) ? 100000 : 10000));
            }
        }
        String text = mutated(b.toString(), "abcdefghijklmnopABCDEFGHIJKLMNOP+-!?>=;0123456789qQ ");
        int n = lengthOf(text);
        put(Due.bytesOf(text));
        due("gossip " + text, model.gossip(n), x.gossip(n));
    }

    private char toldLetter(int told) {
        char letter = letter('a', 16);
        for (int i = 0; i < 100 && !isOne(100) && (told >> (letter - 'a') & 1) == 0; i++) {
            letter = letter('a', 16);
        }
        return letter;
    }

    private void copy() {
        StringBuilder b = new StringBuilder();
        int words = isOne(4) ? 30 : 1 + below(12);
        int longest = isOne(40) ? 13 : 1 + below(12);
        for (int i = 0; i < words && b.length() < 190; i++) {
            b.append(i == 0 ? "" : "_").append(isOne(4) ? "" + (2 + below(8)) : "");
            for (int j = below(longest); j >= 0; j--) {
                b.append(letter('a', isOne(3) ? 26 : 6));
            }
        }
        String text = mutated(b.toString(), "abcz_0123456789A");
        int n = lengthOf(text);
        put(Due.bytesOf(text));
        due("copy " + text, model.copy(n), x.copy(n));
    }

    // ---- the other calls

    private void weeks() {
        int n = isOne(20) ? about(1, 100) : 1 + below(3);
        due("weeks(" + n + ")", model.weeks(n), x.weeks(n));
    }

    private void tries() {
        int n = isOne(3) ? about(1, 100) : 1 + below(8);
        int secret = about(0, 15);
        int what = isOne(2) ? about(0, 3) : about(100, 115);
        due("tried(" + n + ", " + what + ")", model.tried(n, what), x.tried(n, what));
        due("allKnow(" + secret + ", " + n + ")", model.allKnow(secret, n), x.allKnow(secret, n));
        due("silent(" + n + ")", model.silent(n), x.silent(n));
    }

    private void people() {
        for (int what = -1; what <= 4; what++) {
            int p = about(0, 15);
            due("personIs(" + p + ", " + what + ")", model.personIs(p, what), x.personIs(p, what));
        }
        int secret = about(0, 15);
        due("whose(" + secret + ")", model.whose(secret), x.whose(secret));
        due("alone()", model.alone(), x.alone());
        int what = about(0, 1);
        due("enough(" + what + ")", model.enough(what), x.enough(what));
    }

    private void issues() {
        int i = isOne(3) ? about(1, 20) : 1 + below(4);
        int what = isOne(4) ? 100 : isOne(8) ? about(0, 100) : below(12);
        due("backNumber(" + i + ", " + what + ")", model.backNumber(i, what), x.backNumber(i, what));
        int secrets = isOne(4) ? about(0, 65535) : printedOnes() & (isOne(2) ? 65535 : below(65536));
        int which = about(0, 1);
        due("blackmail(" + secrets + ", " + which + ")", model.blackmail(secrets, which), x.blackmail(secrets, which));
        due("mostPrinted(" + which + ")", model.mostPrinted(which), x.mostPrinted(which));
        int ask = about(0, 2);
        due("pair(" + ask + ")", model.pair(ask), x.pair(ask));
        int p = about(0, 15);
        due("reached(" + p + ")", model.reached(p), x.reached(p));
    }

    private int printedOnes() {
        int bits = 0;
        for (int i = 1; i <= 20; i++) {
            for (int j = 0; j < model.backNumber(i, 100); j++) {
                bits |= 1 << model.backNumber(i, 3 * j + 2);
            }
        }
        return bits;
    }

    private void setting() {
        int wide = about(12, isOne(2) ? 60 : 20);
        int i = about(0, Math.max(0, model.count(4) - 1));
        int what = about(0, 2);
        due("lineOf(" + wide + ", " + i + ")", model.lineOf(wide, i), x.lineOf(wide, i));
        due("set(" + wide + ", " + what + ")", model.set(wide, what), x.set(wide, what));
        due("copyIs(" + what + ")", model.copyIs(what), x.copyIs(what));
        int letter = about(0, 25);
        due("type(" + letter + ")", model.type(letter), x.type(letter));
        int each = isOne(2) ? below(9) : about(0, 255);
        due("bought(" + each + ")", model.bought(each), x.bought(each));
    }

    private int most() {
        return isOne(2) ? 256 : 8;
    }

    private void nuns() {
        int n = about(1, 8);
        int many = about(2, 3);
        put(bytes(8, most()));
        due("nuns(" + n + ", " + many + ")", model.nuns(n, many), x.nuns(n, many));
    }

    private void space() {
        int n = about(1, 10);
        int high = isOne(2) ? below(40) : about(0, 255);
        int what = about(0, 1);
        int[] b = bytes(20, most());
        for (int i = 0; i < 20; i += 2) {
            b[i] = isOne(40) ? b[i] : 1 + b[i] % 60;
        }
        put(b);
        due("space(" + n + ", " + high + ", " + what + ")", model.space(n, high, what), x.space(n, high, what));
    }

    private void style() {
        int n = about(2, 6);
        int what = about(0, 1);
        put(bytes(28, most()));
        due("style(" + n + ", " + what + ")", model.style(n, what), x.style(n, what));
    }

    private void names() {
        int n = about(1, 12);
        int m = about(1, 12);
        put(bytes(24, 1 + below(6)));
        due("names(" + n + ", " + m + ")", model.names(n, m), x.names(n, m));
    }

    private void duty() {
        int p = about(0, 15);
        int n = about(1, 6);
        int[] b = bytes(12, most());
        if (!isOne(4)) {
            for (int i = 0; i < 12; i += 2) {
                b[i] = (i == 0 ? 0 : b[i - 2]) + 1 + below(20);
            }
        }
        put(b);
        due("duty(" + p + ", " + n + ")", model.duty(p, n), x.duty(p, n));
    }

    private void hands() {
        int n = about(2, 16);
        int what = about(0, 1);
        int[] b = bytes(32, 256);
        for (int i = 2; i < 32; i += 2) {
            b[i] = below(isOne(60) ? i : i / 2);
            b[i + 1] = below(isOne(60) ? 17 : isOne(2) ? 3 : 16);
        }
        put(b);
        due("hands(" + n + ", " + what + ")", model.hands(n, what), x.hands(n, what));
    }

    private void check() {
        int n = about(0, 16);
        int[] b = new int[16];
        for (int p = 0; p < 16; p++) {
            b[p] = model.personIs(p, 1) & 255;
        }
        if (isOne(2)) {
            b[below(16)] = isOne(2) ? 255 : below(17);
        }
        put(b);
        due("check(" + n + ")", model.check(n), x.check(n));
    }

    private void keeps() {
        switch (below(4)) {
            case 0 -> due("keep()", model.keep(), x.keep());
            case 1 -> due("undo()", model.undo() ? 1 : 0, x.undo() ? 1 : 0);
            default -> {
                int seed = about(0, 65535);
                due("seed(" + seed + ")", model.seed(seed) ? 1 : 0, x.seed(seed) ? 1 : 0);
            }
        }
    }

    private void counts() {
        for (int what = -1; what <= 9; what++) {
            due("count(" + what + ")", model.count(what), x.count(what));
        }
    }
}
