/** Terms: the FAULTS of GOSSIP, COPY and THE LAW, each by its number and place, and which goes first. */
public final class FaultsTest {
    private static final String TWENTY = "a!;".repeat(19) + "a!";
    private static final String SIXTY = "9a_".repeat(6) + "6a";
    private static final String SIXTEEN = "r(1=1);".repeat(15) + "r(1=1)";

    public static void main(String[] args) {
        gossipLetters();
        gossipEnds();
        gossipSigns();
        gossipFifthDigit();
        gossipHimself();
        gossipNotTold();
        gossipTwentyFirst();
        copyLetters();
        copyEnds();
        copySigns();
        copyThirteenth();
        copySixtyFirst();
        copyWhichFirst();
        lawRuleLetters();
        lawFactors();
        lawEnds();
        lawSigns();
        lawSixthDigit();
        lawSeventeenth();
        lawSeventhOpen();
        lawSeventhThatCannotStand();
        Due.end();
    }

    /** Told are a, o and p. */
    private static void gossip(String text, int due) {
        WhisperPress x = new WhisperPress();
        x.person(0, 1, false);
        x.person(14, 4, false);
        x.person(15, 2, true);
        Due.due("gossip " + text, due, Due.gossip(x, text));
        Due.due("gossip " + text + ": the tape", 0, x.count(6));
        if (due < 0) {
            Due.due("nothing is done: a", 1, x.personIs(0, 0));
            Due.due("nothing is done: o", 4, x.personIs(14, 0));
            Due.due("nothing is done: p", 2, x.personIs(15, 0));
            Due.due("nothing is done: READERS", 0x8000, x.count(2));
            Due.due("nothing is done: BREATH", 0, x.count(8));
        }
    }

    /** One letter on, one letter back. */
    private static String next(char sign, int step) {
        return "" + (char) (sign + step);
    }

    private static void gossipLetters() {
        gossip("a!", 1);
        gossip("p!", 1);
        gossip(next('a', -1) + "!", -1000);
        gossip(next('p', 1) + "!", -1000);
        gossip("a>p", 1);
        gossip("a>" + next('a', -1), -1002);
        gossip("a>" + next('p', 1), -1002);
        gossip("p>a", 1);
        gossip("a+A", 1);
        gossip("a+P", 1);
        gossip("a-A", 1);
        gossip("a-P", 1);
        gossip("a+" + next('A', -1), -1002);
        gossip("a-" + next('P', 1), -1002);
        gossip("a+a", -1002);
        gossip("A!", -1000);
        gossip("a>P", -1002);
    }

    /** "(the end, too)": at the place behind the last byte. */
    private static void gossipEnds() {
        gossip("a", -1001);
        gossip("a+", -1002);
        gossip("a-", -1002);
        gossip("a>", -1002);
        gossip("a=", -1002);
        gossip("a!;", -1003);
        gossip("a+A;", -1004);
        gossip("a=1;", -1004);
        gossip("a!;p", -1004);
        gossip("a!;p>", -1005);
    }

    private static void gossipSigns() {
        gossip(";", -1000);
        gossip(";a!", -1000);
        gossip("a;", -1001);
        gossip("a!;;a!", -1003);
        gossip("a!,a!", -1002);
        gossip("a!a!", -1002);
        gossip("a+AB", -1003);
        gossip("a+A+B", -1003);
        gossip("a>pa", -1003);
        gossip("a=/", -1002);
        gossip("a=:", -1002);
        gossip("a=0", 1);
        gossip("a=9", 1);
        gossip("a=1/", -1003);
        gossip("a=-1", -1002);
        gossip(" a!", -1000);
        gossip("a !", -1001);
        gossip("a! ", -1002);
        gossip("a!; p!", -1003);
        gossip("a<p", -1001);
        gossip("a" + (char) 0, -1001);
        gossip("a" + (char) 255, -1001);
        gossip((char) ('a' + 128) + "!", -1000);
    }

    private static void gossipFifthDigit() {
        gossip("a=0000", 1);
        gossip("a=00000", -2006);
        gossip("a=12345", -2006);
        gossip("a=123456", -2006);
        gossip("a=1234x", -1006);
        gossip("a!;p=99999", -2009);
        gossip("a=1234;p=12345", -2013);
        gossip("a=123a5", -1005);
    }

    private static void gossipHimself() {
        gossip("a>a", -6002);
        gossip("p>p", -6002);
        gossip("a!;p>p", -6005);
        gossip("a>ax", -6002);
        gossip("a>a;b!", -6002);
        gossip("b>b", -7000);
    }

    private static void gossipNotTold() {
        gossip("b!", -7000);
        gossip("b", -7000);
        gossip("bx", -7000);
        gossip("a>b", -7002);
        gossip("a>n", -7002);
        gossip("a!;b!", -7003);
        gossip("a!;a>b", -7005);
        gossip("b>a", -7000);
        gossip("a!;c=12345", -7003);
        gossip("a=12345;b!", -2006);
        gossip("x;b!", -1000);
    }

    private static void gossipTwentyFirst() {
        gossip(TWENTY, 20);
        gossip(TWENTY + ";a!", -4060);
        gossip(TWENTY + ";a", -4060);
        gossip(TWENTY + ";ax", -4060);
        gossip(TWENTY + ";b!", -4060);
        gossip(TWENTY + ";p", -4060);
        gossip(TWENTY + ";q", -1060);
        gossip(TWENTY + ";", -1060);
        gossip(TWENTY + ";;", -1060);
        gossip(TWENTY + "x", -1059);
        gossip("a!;".repeat(19) + "b!;a!", -7057);
        gossip("a!;".repeat(19) + "a>a;a!", -6059);
    }

    private static void copy(String text, int due) {
        WhisperPress x = new WhisperPress();
        Due.copy(x, "2xyz");
        Due.due("copy " + text, due, Due.copy(x, text));
        Due.due("copy " + text + ": the tape", 0, x.count(6));
        Due.due("WORDS behind copy " + text, due < 0 ? 2 : due, x.count(4));
        if (due < 0) {
            Due.due("the one before stays: letters", 6, x.copyIs(0));
            Due.due("the one before stays: unlike ones", 3, x.copyIs(2));
            Due.due("the one before stays: its lines", 1, x.set(12, 1));
        }
    }

    private static void copyLetters() {
        copy("a", 1);
        copy("z", 1);
        copy(next('a', -1), -1000);
        copy(next('z', 1), -1000);
        copy("a" + next('a', -1), -1001);
        copy("a" + next('z', 1), -1001);
        copy("A", -1000);
        copy("2a", 2);
        copy("9a", 9);
        copy("1a", -1000);
        copy("0a", -1000);
        copy(next('9', 1) + "a", -1000);
        copy("" + (char) ('a' + 128), -1000);
    }

    private static void copyEnds() {
        copy("2", -1001);
        copy("a_", -1002);
        copy("a_2", -1003);
        copy("2ab_", -1004);
        copy(SIXTY + "_", -1021);
        copy(SIXTY + "_9", -1022);
    }

    private static void copySigns() {
        copy("_", -1000);
        copy("_a", -1000);
        copy("a__b", -1002);
        copy("a_2_b", -1003);
        copy("22a", -1001);
        copy("2Aa", -1001);
        copy("a2", -1001);
        copy("a2b", -1001);
        copy("a b", -1001);
        copy(" a", -1000);
        copy("a;b", -1001);
        copy("a_B", -1002);
        copy("a_1b", -1002);
        copy("a" + (char) 0, -1001);
        copy("a" + (char) 223, -1001);
    }

    private static void copyThirteenth() {
        copy("abcdefghijkl", 1);
        copy("abcdefghijklm", -2012);
        copy("abcdefghijklmn", -2012);
        copy("abcdefghijkl_m", 2);
        copy("abcdefghijklM", -1012);
        copy("abcdefghijkl2", -1012);
        copy("2abcdefghijklm", -2013);
        copy("a_abcdefghijklm", -2014);
        copy("abcdefghijklm_1", -2012);
    }

    private static void copySixtyFirst() {
        copy(SIXTY, 60);
        copy(SIXTY + "_b", -4021);
        copy(SIXTY + "_2b", -4021);
        copy(SIXTY + "_9bcdefghijkl", -4021);
        copy(SIXTY + "_b_c", -4021);
        copy("9a_".repeat(6) + "7a", -4018);
        copy("9a_".repeat(6) + "9a", -4018);
        copy("9a_".repeat(6) + "5a_2a", -4021);
        copy("9a_".repeat(6) + "5a_a", 60);
        copy("9a_".repeat(6) + "7a_b", -4018);
        copy("a_".repeat(59) + "2b", -4118);
        copy("a_".repeat(60) + "b", -4120);
    }

    /** "asked when it ends": what is wrong within the WORD goes ahead of more than 60, what is behind it does not. */
    private static void copyWhichFirst() {
        copy(SIXTY + "_bcdefghijklmn", -2033);
        copy(SIXTY + "_2bcdefghijklmn", -2034);
        copy(SIXTY + "_2_", -1022);
        copy(SIXTY + "_2B", -1022);
        copy(SIXTY + "__", -1021);
        copy(SIXTY + "_B", -1021);
        copy(SIXTY + "_b_", -4021);
        copy(SIXTY + "_b__", -4021);
        copy(SIXTY + "_b_cdefghijklmno", -4021);
        copy(SIXTY + "x", 60);
        copy(SIXTY + "X", -1020);
        copy("9a_".repeat(6) + "7a_", -4018);
        copy("9a_".repeat(6) + "7bcdefghijklmn", -2031);
    }

    private static void law(String text, int due) {
        WhisperPress x = new WhisperPress();
        Due.law(x, "h5(1=1);r(1=2)");
        Due.due("law " + text, due, Due.law(x, text));
        Due.due("law " + text + ": the tape", 0, x.count(6));
        Due.due("RULES behind law " + text, due < 0 ? 2 : due, x.count(5));
    }

    private static void lawRuleLetters() {
        for (char letter = 0; letter < 256; letter++) {
            boolean isOne = "ehm".indexOf(letter) >= 0;
            law(letter + "1(1=1)", isOne ? 1 : letter == 'r' ? -1001 : -1000);
        }
        law("r(1=1)", 1);
    }

    private static void lawFactors() {
        for (char letter = 0; letter < 256; letter++) {
            boolean isOne = "pknoubdwc0123456789".indexOf(letter) >= 0;
            law("e" + letter + "(1=1)", isOne ? 1 : letter == '[' ? -1002 : -1001);
            boolean opens = letter == '(' || letter == '!';
            law("r(" + letter + "=1)", isOne ? 1 : opens || letter == '[' ? -1003 : -1002);
            law("r(1=" + letter + ")", isOne ? 1 : letter == '[' ? -1005 : -1004);
        }
    }

    private static void lawEnds() {
        String[] pieces = {"e", "e5", "e5+", "e5*", "e[", "e[5", "e[5]", "e5(", "e5(1", "e5(1=", "e5(1=1", "e5(1=1&",
            "e5(1=1|", "e5(!", "e5((", "e5((1=1", "e5((1=1)", "e5(1=1);", "r", "r(", "r(1=1);e5", "h", "m"};
        for (String piece : pieces) {
            law(piece, -1000 - piece.length());
        }
    }

    private static void lawSigns() {
        law(" r(1=1)", -1000);
        law("r (1=1)", -1001);
        law("r( 1=1)", -1002);
        law("r(1 =1)", -1003);
        law("r(1=1) ", -1006);
        law("r(1=1);;r(1=1)", -1007);
        law("r(1=1)r(1=1)", -1006);
        law("r(1=1),r(1=1)", -1006);
        law("r1(1=1)", -1001);
        law("e(1=1)", -1001);
        law("e5[1=1]", -1002);
        law("e(5)(1=1)", -1001);
        law("e!5(1=1)", -1001);
        law("e5=5(1=1)", -1002);
        law("r(1)", -1003);
        law("r(1+1)", -1005);
        law("r(1<=1)", -1004);
        law("r(1=1=1)", -1005);
        law("r(1=1<1)", -1005);
        law("r(1&1=1)", -1003);
        law("r(1=1&&1=1)", -1006);
        law("r(1=1||1=1)", -1006);
        law("r(&1=1)", -1002);
        law("r(|1=1)", -1002);
        law("r(1=1!)", -1005);
        law("r(1=!1)", -1004);
        law("r(1=(1))", -1004);
        law("r((1)=1)", -1004);
        law("r([1=1])", -1004);
        law("r([1]=1)", 1);
        law("r([1)=1)", -1004);
        law("r(1=1])", -1005);
        law("r(1=1))", -1006);
        law("r((1=1)+1=1)", -1007);
        law("r((1=1)=1)", -1007);
        law("r(-1=1)", -1002);
        law("r(1--1=1)", -1004);
        law("r(1**1=1)", -1004);
        law("r(1+*1=1)", -1004);
        law("r(1p=1)", -1003);
        law("r(p1=1)", -1003);
        law("r(pk=1)", -1003);
        law("r([1]1=1)", -1005);
        law("r([1][1]=1)", -1005);
        law("r(1=1" + (char) 169, -1005);
    }

    private static void lawSixthDigit() {
        law("e12345(1=1)", 1);
        law("e00000(1=1)", 1);
        law("e000000(1=1)", -2006);
        law("e1234567(1=1)", -2006);
        law("e12345x(1=1)", -1006);
        law("r(99999=1)", 1);
        law("r(123456=1)", -2007);
        law("r(1=123456)", -2009);
        law("r(1=123456", -2009);
        law("e[123456](1=1)", -2007);
        law("e1+12345+123456(1=1)", -2014);
    }

    private static void lawSeventeenth() {
        law(SIXTEEN, 16);
        for (char letter : "ehmr".toCharArray()) {
            law(SIXTEEN + ";" + letter, -4112);
            law(SIXTEEN + ";" + letter + "(1=1)", -4112);
        }
        law(SIXTEEN + ";p", -1112);
        law(SIXTEEN + ";", -1112);
        law(SIXTEEN + ";;", -1112);
        law(SIXTEEN + ")", -1111);
        law("r(1=1);".repeat(15) + "r(1=);e1(1=1)", -1109);
    }

    /** In a C five may be open in the ( of the RULE, in the E of a RULE six. */
    private static void lawSeventhOpen() {
        String signs = "(!";
        for (int way = 0; way < 32; way++) {
            StringBuilder open = new StringBuilder();
            StringBuilder close = new StringBuilder();
            for (int i = 0; i < 5; i++) {
                char sign = signs.charAt(way >> i & 1);
                open.append(sign);
                close.append(sign == '(' ? ")" : "");
            }
            law("r(" + open + "1=1" + close + ")", 1);
            law("r(" + open + "(1=1)" + close + ")", -5007);
            law("r(" + open + "!1=1" + close + ")", -5007);
            law("r(" + open + "[1]=1" + close + ")", -5007);
            law("r(" + open + "1=[1]" + close + ")", -5009);
            law("r(" + open + "1=2+[1]" + close + ")", -5011);
            // The last of the five has ended with its TEST if it is a !.
            law("r(" + open + "1=1&[1]=1" + close + ")", way < 16 ? -5011 : 1);
        }
        for (int brackets = 1; brackets <= 8; brackets++) {
            String e = "[".repeat(brackets) + "1" + "]".repeat(brackets);
            law("r(" + e + "=1)", brackets <= 5 ? 1 : -5007);
            law("r(1=" + e + ")", brackets <= 5 ? 1 : -5009);
            law("e" + e + "(1=1)", brackets <= 6 ? 1 : -5007);
            law("e" + e + "(" + "(".repeat(5) + "1=1" + ")".repeat(5) + ")", brackets <= 6 ? 1 : -5007);
        }
        law("r(!!!!!1=1&!!!!!1=1)", 1);
        law("r(!!!!!1=1|!!!!!1=1)", 1);
        law("r(!!!!(1=1)&!!!!(1=1)|(((((1=1))))))", 1);
        law("r(((((!1=1&[1]=1)))))", 1);
        law("r(((((!1=[1])))))", -5009);
        law("r(!(1=1)&((((([1]=1))))))", -5014);
        law("r(1=1);r((((((1=1))))));r(((((((1=1)))))))", -5031);
    }

    /** One that can't stand there is no seventh: 1 at it. */
    private static void lawSeventhThatCannotStand() {
        law("r(!!!!!1=!", -1009);
        law("r(!!!!!1=(", -1009);
        law("r(!!!!!1(", -1008);
        law("r(!!!!!1[", -1008);
        law("e[[[[[[(", -1007);
        law("e[[[[[[!", -1007);
        law("r(!!!!!", -1007);
        law("r(!!!!!)", -1007);
        law("r(!!!!![", -5007);
        law("r(!!!!!(", -5007);
        law("r(!!!!!!", -5007);
        law("e[[[[[[[", -5007);
    }
}
