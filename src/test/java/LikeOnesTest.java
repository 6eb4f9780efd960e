/** Terms: of like ones which. */
public final class LikeOnesTest {
    public static void main(String[] args) {
        choice();
        lowestSecret();
        firstRule();
        enough();
        blackmail();
        mostPrinted();
        pair();
        fewestLines();
        mostWords();
        space();
        style();
        hands();
        check();
        Due.end();
    }

    private static WhisperPress press(String law, int... secrets) {
        WhisperPress x = new WhisperPress();
        for (int p = 0; p < secrets.length; p++) {
            x.person(p, secrets[p], false);
        }
        Due.due("no FAULT in " + law, true, Due.law(x, law) > 0);
        return x;
    }

    private static int chosen(String e, int from, int others) {
        WhisperPress x = new WhisperPress();
        for (int p = 0; p < 16; p++) {
            if (p == from || (others >> p & 1) == 1) {
                x.person(p, p == from ? 1 : 0, false);
            }
        }
        Due.due("no FAULT in " + e, 2, Due.law(x, "e" + e + "(p=" + from + ");h10(1=1)"));
        return x.weeks(1) == 0 ? -1 : x.backNumber(1, 1);
    }

    private static void choice() {
        Due.due("of like ones the lowest", 1, chosen("5", 0, 0b1111_1111_1111_1110));
        Due.due("of like ones the lowest, he is the last", 0, chosen("5", 15, 0b0111_1111_1111_1111));
        Due.due("of like ones the lowest told", 9, chosen("5", 4, 0b1000_0110_0000_0000));
        Due.due("of like ones that are most", 4, chosen("k/4", 0, 0b0000_0000_1111_1110));
        Due.due("most, not lowest", 15, chosen("k", 0, 0b1111_1111_1111_1110));
        Due.due("most is last but one", 14, chosen("k%15", 0, 0b1111_1111_1111_1110));
        WhisperPress x = press("e5(p=0);h10(1=1)", 1, 1, 0, 0);
        x.weeks(1);
        Due.due("one who KNOWS all that he does is not asked", 2, x.backNumber(1, 1));
    }

    private static void lowestSecret() {
        WhisperPress x = press("e1(p=0);h10(1=1)", 0xa00c, 0x0004);
        for (int due : new int[] {3, 13, 15}) {
            x.weeks(1);
            Due.due("the lowest he does not KNOW", due, x.backNumber(1, 2));
        }
        Due.due("then none", 0, x.weeks(1));
    }

    private static void firstRule() {
        Due.due("the first e", 2, chosen("k", 0, 6));
        WhisperPress x = press("e3-k(p=0);e9+k(p=0);h10(1=1)", 1, 0, 0);
        x.weeks(1);
        Due.due("the first of two e", 1, x.backNumber(1, 1));
        Due.due("the first of two h", 0, press("e1(1=1);h0(1=1);h10(1=1)", 1, 0).tried(1, 0));
        Due.due("the first of two h that hold", 1, press("e1(1=1);h0(1=2);h10(1=1);h0(1=1)", 1, 0).tried(1, 0));
        Due.due("the first of two m", 0, press("e1(1=1);h10(1=1);m0(1=1);m10(1=1)", 1, 0).tried(1, 1));
        WhisperPress y = press("e1(1=1);h10(1=1);m0(1=2);m10(1=1);m0(1=1)", 1, 0);
        Due.due("the first of two m that hold", 1, y.tried(1, 1));
    }

    /** a and d do as well as b and c; 6 is less than 9. */
    private static void enough() {
        WhisperPress x = press("r(1=1)", 0b0011, 0b0101, 0b1010, 0b1100);
        Due.due("b and c, not a and d", 0b0110, x.enough(1));
        x = press("r(1=1)", 0b0011, 0b1100, 0b0101, 0b1010);
        Due.due("a and b, not c and d", 0b0011, x.enough(1));
        x = press("r(1=1)", 0b0111, 0b0001, 0b1000, 0b1000);
        Due.due("a and c, not a and d", 0b0101, x.enough(1));
        x = press("r(1=1)", 0b0001, 0b0010, 0b0100, 0b0111);
        Due.due("d alone, though a, b and c have less bits", 0b1000, x.enough(1));
        x = press("r(1=1)", 0, 0, 5, 5);
        Due.due("c, not d", 0b0100, x.enough(1));
    }

    /** In each text the SECRETS of one ISSUE, the oldest first. */
    private static WhisperPress printed(String... issues) {
        WhisperPress x = new WhisperPress();
        for (String issue : issues) {
            StringBuilder law = new StringBuilder("h10(1=1)");
            for (int i = 0; i < issue.length(); i++) {
                x.person(2 * i, 1 << (issue.charAt(i) - 'A'), false);
                x.person(2 * i + 1, 0, false);
                law.append(";e1(p=").append(2 * i).append("&k=").append(2 * i + 1).append(")");
            }
            Due.law(x, law.toString());
            Due.due("printed " + issue, issue.length(), x.weeks(1));
        }
        return x;
    }

    private static void blackmail() {
        WhisperPress x = printed("AB", "AC", "BD", "CD");
        Due.due("two of four", 2, x.blackmail(15, 0));
        Due.due("the second and the third, not the first", 3, x.blackmail(15, 1));
        x = printed("ABC", "A", "B", "C");
        Due.due("one, though it is older", 1, x.blackmail(7, 0));
        Due.due("its place", 4, x.blackmail(7, 1));
        x = printed("A", "A", "A");
        Due.due("the last of three", 1, x.blackmail(1, 1));
        x = printed("AB", "C", "AB", "", "");
        Due.due("the oldest that is needed", 4, x.blackmail(7, 1));
    }

    /** Each text a WHISPER: from whom, to whom. */
    private static WhisperPress whispered(String... whispers) {
        WhisperPress x = new WhisperPress();
        for (String s : whispers) {
            int from = s.charAt(0) - 'a';
            int to = s.charAt(1) - 'a';
            x.person(from, 1, false);
            x.person(to, 0, false);
            Due.law(x, "e1(p=" + from + "&k=" + to + ");h10(1=1)");
            Due.due("whispered " + s, 1, x.weeks(1));
        }
        return x;
    }

    private static void mostPrinted() {
        Due.due("the lowest, last", 0, whispered("ap", "pa").mostPrinted(0));
        Due.due("the lowest, first", 0, whispered("pa", "ap").mostPrinted(0));
        Due.due("of two who are printed twice", 1, whispered("ac", "ac", "ab", "cb", "cd").mostPrinted(0));
        Due.due("most often, not lowest", 15, whispered("ba", "ap", "bp").mostPrinted(0));
    }

    private static void pair() {
        WhisperPress x = whispered("po", "ob", "oa");
        Due.due("the lowest from", 14, x.pair(0));
        Due.due("of these the lowest to", 0, x.pair(1));
        x = whispered("ba", "ac", "ad");
        Due.due("from, then to", 0, x.pair(0));
        Due.due("not the lowest to of all", 2, x.pair(1));
        x = whispered("ab", "pa", "pa");
        Due.due("most often, not lowest", 15, x.pair(0));
        Due.due("most often, to", 0, x.pair(1));
    }

    private static void fewestLines() {
        WhisperPress x = new WhisperPress();
        // The same squares, 85, can be had in 6 lines.
        Due.copy(x, "2aaaaaaa_aa_aaaaaaa_9aa_3aa_2aaaaaaa_4aa_2aaaaaaa_3aa");
        Due.due("squares", 85, x.set(25, 0));
        Due.due("the fewest lines", 5, x.set(25, 1));
        // Nothing is left free in the last line, so one line is as good as none free in two.
        Due.copy(x, "abcdefghijkl_m");
        Due.due("no squares in one line", 0, x.set(14, 0));
        Due.due("one line", 1, x.set(14, 1));
    }

    private static void mostWords() {
        WhisperPress x = new WhisperPress();
        // 5 3 | 5 | 12 and 5 | 3 5 | 12: 9 + 49 each.
        Due.copy(x, "aaaaa_bbb_ccccc_dddddddddddd");
        Due.due("the most in the first line", 2, x.set(12, 2));
        int[] lines = {0, 0, 1, 2};
        for (int i = 0; i < 4; i++) {
            Due.due("WORD " + i, lines[i], x.lineOf(12, i));
        }
        Due.copy(x, "2aaaaaaaaaaaa_aaaaa_bbb_ccccc_dddddddddddd");
        int[] later = {0, 1, 2, 2, 3, 4};
        for (int i = 0; i < 6; i++) {
            Due.due("so on from line to line, WORD " + i, later[i], x.lineOf(12, i));
        }
    }

    private static int space(int high, int... bytes) {
        WhisperPress x = new WhisperPress();
        Due.feed(x, bytes);
        return x.space(bytes.length / 2, high, 1);
    }

    private static void space() {
        Due.due("one of two like ones", 1, space(5, 5, 7, 5, 7));
        Due.due("b and c, not a and d", 6, space(10, 4, 4, 5, 5, 5, 5, 6, 6));
        Due.due("two lower ones, not one higher", 3, space(7, 3, 4, 4, 5, 7, 9));
        Due.due("one lower one, not two higher", 1, space(7, 7, 9, 3, 4, 4, 5));
        Due.due("without one for which nothing is paid", 2, space(60, 1, 0, 1, 5, 1, 0));
    }

    private static void style() {
        WhisperPress x = new WhisperPress();
        Due.feed(x, 9, 0, 0, 0, 0, 3, 0, 0, 0, 0, 0, 3, 0, 0, 0, 0);
        Due.due("the lower one of two", 1, x.style(3, 0));
        Due.feed(x, 3, 3, 0, 0, 0, 0, 4, 0, 1, 1, 1, 1);
        Due.due("like by other kinds", 0, x.style(2, 0));
        Due.feed(x, 3, 3, 0, 0, 0, 0, 3, 0, 1, 1, 1, 1);
        Due.due("the second, which differs by one less", 1, x.style(2, 0));
    }

    private static void hands() {
        WhisperPress x = new WhisperPress();
        Due.feed(x, 0, 0, 0, 5, 0, 9, 1, 4, 0, 9);
        Due.due("the lowest of three", 2, x.hands(5, 1));
        Due.feed(x, 0, 0, 0, 0, 0, 0, 0, 0);
        Due.due("the first one of all", 0, x.hands(4, 1));
    }

    private static void check() {
        WhisperPress x = new WhisperPress();
        x.person(1, 1, false);
        x.person(2, 1, false);
        Due.feed(x, 255, 2, 2);
        Due.due("the first that is not so", 1, x.check(3));
    }
}
