/** Promises 3 to 6: the tape, and the FAULTS of THE LAW, GOSSIP and COPY. */
public final class TextsTest {
    public static void main(String[] args) {
        feed();
        lawTape();
        lawFaults();
        lawDepth();
        gossipTape();
        gossipFaults();
        gossipDeeds();
        copyTape();
        copyFaults();
        Due.end();
    }

    private static void feed() {
        WhisperPress x = new WhisperPress();
        for (int i = 1; i <= 13; i++) {
            Due.due("feed " + i, 20 * i, x.feed(0, 0, 0, 0, 0));
        }
        Due.due("feed 14", -1, x.feed(0, 0, 0, 0, 0));
        Due.due("tape is full", 260, x.count(6));
        Due.due("check(0)", -1, x.check(0));
        Due.due("tape is empty", 0, x.count(6));
        x.person(0, 1, false);
        x.person(1, 7, false);
        x.person(5, 255, false);
        Due.due("feed, the highest byte first", 20, x.feed(0x0103ffff, 0xff08ffff, -1, -1, 0));
        Due.due("check(16)", -1, x.check(16));
    }

    private static void lawTape() {
        WhisperPress x = new WhisperPress();
        Due.due("law(1), no tape", -1, x.law(1));
        Due.feed(x, Due.bytesOf("r(1=1)"));
        Due.due("law(0)", -1, x.law(0));
        Due.due("law(-1)", -1, x.law(-1));
        Due.due("law(21)", -1, x.law(21));
        Due.due("law(241)", -1, x.law(241));
        Due.due("law(max)", -1, x.law(Integer.MAX_VALUE));
        Due.due("the tape stays", 20, x.count(6));
        Due.due("law(6)", 1, x.law(6));
        Due.due("the tape is empty", 0, x.count(6));
        Due.due("law with a FAULT", -1000, Due.law(x, "x"));
        Due.due("the tape is empty then, too", 0, x.count(6));
        Due.due("the one before stays", 1, x.count(5));
        String longest = "r(" + "1+".repeat(117) + "1=1)";
        Due.due("240 bytes", 1, Due.law(x, longest));
        Due.due("length", 240, longest.length());
        Due.feed(x, Due.bytesOf(longest));
        Due.feed(x, 0);
        Due.due("law(241) with so many bytes", -1, x.law(241));
        Due.due("law(240)", 1, x.law(240));
    }

    private static void faults(String text, int due) {
        WhisperPress x = new WhisperPress();
        Due.due("law " + text, due, Due.law(x, text));
        Due.due("RULES of law " + text, Math.max(0, due), x.count(5));
    }

    private static void lawFaults() {
        faults("e5(p=0)", 1);
        faults("e5(p=0);h10(k<3);m2(u>1);r(w=3)", 4);
        for (String letter : "p k n o u b d w c".split(" ")) {
            faults("e" + letter + "(" + letter + "=" + letter + ")", 1);
            faults("r(" + letter + "=1)", 1);
        }
        faults("e 5(p=0)", -1001);
        faults("E5(p=0)", -1000);
        faults("e5(p=0) ", -1007);
        faults("e5(p=0);", -1008);
        faults("e5(p=0);;", -1008);
        faults(";e5(p=0)", -1000);
        faults("e5(p=0);x", -1008);
        faults("e", -1001);
        faults("e5", -1002);
        faults("e+5(1=1)", -1001);
        faults("e-5(1=1)", -1001);
        faults("e5+(1=1)", -1003);
        faults("e5)", -1002);
        faults("e5]", -1002);
        faults("e[5(1=1)", -1003);
        faults("e[5](1=1)", 1);
        faults("e[](1=1)", -1002);
        faults("e5()", -1003);
        faults("e5(1)", -1004);
        faults("e5(1=)", -1005);
        faults("e5(1==1)", -1005);
        faults("e5(1=1=1)", -1006);
        faults("e5(1=1&)", -1007);
        faults("e5(1=1|&1=1)", -1007);
        faults("e5(1=1&1=1|1=1)", 1);
        faults("e5(!1=1)", 1);
        faults("e5(1=!1)", -1005);
        faults("e5((1=1)&!(2=2))", 1);
        faults("e5((1)=1)", -1005);
        faults("e5([1]=1)", 1);
        faults("e5([1=1])", -1005);
        faults("e5((1=1)=1)", -1008);
        faults("e5(1=1", -1006);
        faults("e5((1=1)", -1008);
        faults("e5(1=1))", -1007);
        faults("r5(1=1)", -1001);
        faults("rp(1=1)", -1001);
        faults("e12345(1=1)", 1);
        faults("e123456(1=1)", -2006);
        faults("e000001(1=1)", -2006);
        faults("e1(1=99999)", 1);
        faults("e1(1=100000)", -2010);
        faults("ep5(1=1)", -1002);
        faults("e5p(1=1)", -1002);
        faults("ea(1=1)", -1001);
        faults("e5*/2(1=1)", -1003);
        faults("e5%2*3/4+1-2(1=1)", 1);
        String sixteen = "r(1=1);".repeat(15) + "r(1=1)";
        faults(sixteen, 16);
        faults(sixteen + ";e1(1=1)", -4112);
        faults(sixteen + ";r", -4112);
        faults(sixteen + ";z", -1112);
        faults(sixteen + ";", -1112);
        faults("e5(1=1)" + (char) 233, -1007);
        faults((char) 0 + "", -1000);
    }

    private static void lawDepth() {
        faults("r((((((1=1))))))", 1);
        faults("r(((((((1=1)))))))", -5007);
        faults("r(!!!!!1=1)", 1);
        faults("r(!!!!!!1=1)", -5007);
        faults("r(!!!!![1]=1)", -5007);
        faults("r(!!!!!1=[1])", -5009);
        faults("r(!!!!1=[1])", 1);
        faults("r(!!!!![", -5007);
        faults("r(!!!!!(1=1))", -5007);
        faults("r(!!!!(1=1)&!!!!(1=1))", 1);
        faults("r(!!!!!1=1&!!!!!1=1|[[[[[1]]]]]=1)", 1);
        faults("r([[[[[1]]]]]=[[[[[1]]]]])", 1);
        faults("r([[[[[[1]]]]]]=1)", -5007);
        faults("e[[[[[[1]]]]]](1=1)", 1);
        faults("e[[[[[[[1]]]]]]](1=1)", -5007);
        faults("e[[[[[[1]]]]]](((((([1]=1))))))", -5020);
        faults("e[[[[[[1]]]]]]((((((1=1))))))", 1);
    }

    private static WhisperPress two() {
        WhisperPress x = new WhisperPress();
        x.person(0, 1, false);
        x.person(15, 2, false);
        return x;
    }

    private static void gossipTape() {
        WhisperPress x = two();
        Due.due("gossip(1), no tape", -1, x.gossip(1));
        Due.feed(x, Due.bytesOf("a!"));
        Due.due("gossip(0)", -1, x.gossip(0));
        Due.due("gossip(21)", -1, x.gossip(21));
        Due.due("gossip(min)", -1, x.gossip(Integer.MIN_VALUE));
        Due.due("the tape stays", 20, x.count(6));
        Due.due("gossip(2)", 1, x.gossip(2));
        Due.due("the tape is empty", 0, x.count(6));
        String longest = "a=1234;".repeat(16) + "a=123;a!";
        Due.due("length", 120, longest.length());
        Due.feed(x, Due.bytesOf(longest));
        Due.feed(x, 0);
        Due.due("gossip(121)", -1, x.gossip(121));
        Due.due("gossip(120)", 18, x.gossip(120));
        Due.due("the last one counts", 123, x.personIs(0, 3));
    }

    private static void gossips(String text, int due) {
        WhisperPress x = two();
        Due.due("gossip " + text, due, Due.gossip(x, text));
        if (due < 0) {
            Due.due("nothing is done by " + text, 1, x.personIs(0, 0));
            Due.due("nothing is done by " + text, 2, x.personIs(15, 0));
            Due.due("nobody reads by " + text, 0, x.count(2));
            Due.due("no breath by " + text, 0, x.count(8));
        }
    }

    private static void gossipFaults() {
        gossips("a!;a", -1004);
        gossips("a!;", -1003);
        gossips("a!;;", -1003);
        gossips("A!", -1000);
        gossips("q!", -1000);
        gossips("`!", -1000);
        gossips("a", -1001);
        gossips("aa", -1001);
        gossips("a+", -1002);
        gossips("a+@", -1002);
        gossips("a+Q", -1002);
        gossips("a-P", 1);
        gossips("a!!", -1002);
        gossips("a!?", -1002);
        gossips("a!; p!", -1003);
        gossips("a=", -1002);
        gossips("a=;", -1002);
        gossips("a=1a", -1003);
        gossips("a=1234", 1);
        gossips("a!;a=12345", -2009);
        gossips("a!;a=00000", -2009);
        gossips("a>", -1002);
        gossips("a>q", -1002);
        gossips("a>a", -6002);
        gossips("a>b", -7002);
        gossips("b>b", -7000);
        gossips("b", -7000);
        gossips("a!;b!", -7003);
        gossips("a!;b>a", -7003);
        String twenty = "a!;".repeat(19) + "a!";
        gossips(twenty, 20);
        gossips(twenty + ";a", -4060);
        gossips(twenty + ";b!", -4060);
        gossips(twenty + ";", -1060);
        gossips(twenty + ";Q", -1060);
    }

    private static void gossipDeeds() {
        WhisperPress x = two();
        Due.due("gossip", 4, Due.gossip(x, "a+C;a-A;p!;a=7"));
        Due.due("a KNOWS", 4, x.personIs(0, 0));
        Due.due("a's breath", 7, x.personIs(0, 3));
        Due.due("p reads", 0x8000, x.count(2));
        Due.due("LINES from the left", 3, Due.gossip(x, "a>p;a+P;p?"));
        Due.due("p KNOWS", 6, x.personIs(15, 0));
        Due.due("a KNOWS then", 0x8004, x.personIs(0, 0));
        Due.due("p does not read", 0, x.count(2));
        Due.due("what is so already", 3, Due.gossip(x, "a+P;a-B;p?"));
        Due.due("a KNOWS the same", 0x8004, x.personIs(0, 0));
        Due.due("no breath", 1, Due.gossip(x, "a=0000"));
        Due.due("a's breath then", 0, x.personIs(0, 3));
    }

    private static void copyTape() {
        WhisperPress x = new WhisperPress();
        Due.due("copy(1), no tape", -1, x.copy(1));
        Due.feed(x, Due.bytesOf("ab_c"));
        Due.due("copy(0)", -1, x.copy(0));
        Due.due("copy(21)", -1, x.copy(21));
        Due.due("the tape stays", 20, x.count(6));
        Due.due("copy(4)", 2, x.copy(4));
        Due.due("the tape is empty", 0, x.count(6));
        String longest = "abcdefghijkl_".repeat(15) + "abcde";
        Due.due("length", 200, longest.length());
        Due.feed(x, Due.bytesOf(longest));
        Due.feed(x, 'a');
        Due.due("copy(201)", -1, x.copy(201));
        Due.due("copy(200)", 16, x.copy(200));
    }

    private static void copies(String text, int due) {
        WhisperPress x = new WhisperPress();
        Due.due("copy zz", 1, Due.copy(x, "zz"));
        Due.due("copy " + text, due, Due.copy(x, text));
        Due.due("WORDS of copy " + text, due < 0 ? 1 : due, x.count(4));
        if (due < 0) {
            Due.due("the copy before stays", 2, x.type(25));
            Due.due("and has no other letters", 2, x.copyIs(0));
        }
    }

    private static void copyFaults() {
        copies("a", 1);
        copies("9abcdefghijkl", 9);
        copies("a_2b_c", 4);
        copies("_", -1000);
        copies("a_", -1002);
        copies("a__b", -1002);
        copies("0a", -1000);
        copies("1a", -1000);
        copies("2", -1001);
        copies("2_a", -1001);
        copies("22a", -1001);
        copies("a2", -1001);
        copies("aB", -1001);
        copies("a{", -1001);
        copies("a`", -1001);
        copies("a b", -1001);
        copies("abcdefghijklm", -2012);
        copies("a_2abcdefghijklm", -2015);
        String sixty = "9a_".repeat(6) + "6a";
        copies(sixty, 60);
        copies(sixty + "_b", -4021);
        copies(sixty + "_2b", -4021);
        copies(sixty + "_", -1021);
        copies(sixty + "_2", -1022);
        copies(sixty + "_2_", -1022);
        copies(sixty + "_2bcdefghijklmn", -2034);
        copies("9a_".repeat(6) + "7a", -4018);
        copies("9a_".repeat(6) + "7a_", -4018);
        copies("9a_".repeat(6) + "7aA", -4018);
        copies("a_".repeat(59) + "a", 60);
        copies("a_".repeat(60) + "a", -4120);
    }
}
