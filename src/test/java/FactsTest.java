/** Terms: what each letter of THE LAW is, its least and its most, and which are 0 in r. */
public final class FactsTest {
    public static void main(String[] args) {
        heAndTheOther();
        howManySecrets();
        howManyUnknown();
        breath();
        otherReads();
        theWeek();
        printedSoFar();
        askedWithThatOne();
        zeroInR();
        hisInR();
        Due.end();
    }

    /** from KNOWS so many SECRETS, to others; nobody else is told. */
    private static WhisperPress two(int from, int his, int to, int others) {
        WhisperPress x = new WhisperPress();
        x.person(from, his, false);
        x.person(to, others, false);
        return x;
    }

    /** That he would whisper by a TEST, and would not by what is not it. */
    private static void holds(WhisperPress x, int from, String test) {
        Due.due("no FAULT in " + test, 2, Due.law(x, "e1(p=" + from + "&" + test + ");h10(1=1)"));
        Due.due(test, 1, x.tried(1, 0));
        Due.due("no FAULT in !" + test, 2, Due.law(x, "e1(p=" + from + "&!(" + test + "));h10(1=1)"));
        Due.due("!" + test, 0, x.tried(1, 0));
    }

    private static void heAndTheOther() {
        for (int from = 0; from < 16; from++) {
            int to = (from + 5) % 16;
            holds(two(from, 1, to, 0), from, "p=" + from);
            holds(two(from, 1, to, 0), from, "k=" + to);
        }
    }

    private static void howManySecrets() {
        holds(two(0, 1, 1, 0), 0, "n=1");
        holds(two(0, 0x8000, 1, 0), 0, "n=1");
        holds(two(0, 65535, 1, 0), 0, "n=16");
        holds(two(0, 1, 1, 0), 0, "o=0");
        holds(two(0, 1, 1, 0xfffe), 0, "o=15");
        holds(two(0, 65535, 1, 0xfffe), 0, "o=15");
        holds(two(0, 0x00f0, 1, 0x8001), 0, "n=4&o=2");
    }

    private static void howManyUnknown() {
        holds(two(0, 1, 1, 0), 0, "u=1");
        holds(two(0, 65535, 1, 0), 0, "u=16");
        holds(two(0, 65535, 1, 0xfffe), 0, "u=1");
        holds(two(0, 0x000f, 1, 0xff03), 0, "u=2");
        WhisperPress x = two(0, 7, 1, 7);
        Due.law(x, "e1(1=1);h10(1=1)");
        Due.due("if he KNOWS all he is not asked", 0, x.tried(1, 0));
    }

    private static void breath() {
        for (int breath : new int[] {0, 1, 9998, 9999}) {
            WhisperPress x = two(0, 1, 1, 0);
            Due.gossip(x, "a=" + breath + ";b=77");
            holds(x, 0, "b=" + breath);
        }
    }

    private static void otherReads() {
        WhisperPress x = two(0, 1, 1, 0);
        holds(x, 0, "d=0");
        Due.gossip(x, "a!");
        holds(x, 0, "d=0");
        Due.gossip(x, "a?;b!");
        holds(x, 0, "d=1");
        x = two(0, 1, 15, 0);
        Due.gossip(x, "p!");
        holds(x, 0, "d=1");
    }

    private static void theWeek() {
        WhisperPress x = two(0, 1, 1, 0);
        holds(x, 0, "w=0");
        Due.law(x, "r(1=1)");
        x.weeks(1);
        holds(x, 0, "w=1");
        Due.law(x, "r(1=1)");
        x.weeks(98);
        holds(x, 0, "w=99");
        Due.law(x, "r(1=1)");
        x.weeks(1);
        holds(x, 0, "w=0");
    }

    /** Who whispers when so many are printed. */
    private static void printedSoFar() {
        for (int many = 0; many < 16; many++) {
            WhisperPress x = new WhisperPress();
            for (int p = 0; p < 16; p++) {
                x.person(p, 1 << p, false);
            }
            Due.law(x, "e1(c<" + many + "|p=15&c=" + many + ");h10(1=1)");
            Due.due("so many and p's", many + 1, x.tried(1, 0));
            x.weeks(1);
            Due.law(x, "e1(c=0);h10(1=1)");
            Due.due("c is 0 again", 1, x.tried(1, 0));
        }
    }

    /** e is asked with each, h and m with the one who is chosen, as all is ahead of the WHISPER. */
    private static void askedWithThatOne() {
        WhisperPress x = two(0, 3, 1, 0);
        x.person(2, 3, true);
        x.person(3, 1, true);
        String all = "k=3&n=2&o=1&u=1&b=0&d=1&w=0&c=0&p=0";
        Due.due("no FAULT", 4, Due.law(x, "e1+k(p=0);h10(" + all + ");m10(" + all + ");r(1=2)"));
        Due.due("h holds", 1, x.tried(1, 0));
        Due.due("m holds", 1, x.tried(1, 1));
        x.weeks(1);
        Due.due("he whispers SECRET 1", 1, x.backNumber(1, 2));
        Due.due("to a, left out, so to b", 1, x.backNumber(1, 1));
    }

    /** d reads in WEEK 1, in which SECRET 3 is printed. */
    private static WhisperPress readers(String r) {
        WhisperPress x = new WhisperPress();
        x.person(0, 5, false);
        x.person(1, 9, true);
        x.person(2, 3, false);
        Due.due("no FAULT in " + r, 3, Due.law(x, "e1(p=0&k=1);h10(1=1);r(" + r + ")"));
        Due.due("a whispers SECRET 2 to b", 1, x.weeks(1));
        x.person(3, 0, true);
        Due.gossip(x, "a+D;b-D");
        Due.due("a whispers SECRET 3 to b", 1, x.weeks(1));
        return x;
    }

    /** b, a READER, is the last one who is asked about, so k, o, u, d are 1 or more ahead of r. */
    private static int readBy(String r) {
        WhisperPress x = new WhisperPress();
        x.person(0, 0, true);
        x.person(1, 1, true);
        x.person(2, 2, false);
        Due.due("no FAULT in " + r, 3, Due.law(x, "e1(p=1&k=2);h10(1=1);r(" + r + ")"));
        Due.due("b whispers to c", 1, x.weeks(1));
        return x.personIs(0, 0);
    }

    private static void zeroInR() {
        for (String letter : "k o u d".split(" ")) {
            Due.due(letter + " is 0", 1, readBy(letter + "=0"));
            Due.due(letter + " is not more", 0, readBy(letter + ">0"));
            Due.due(letter + " is not less", 0, readBy(letter + "<0"));
        }
    }

    private static void hisInR() {
        String[] hold = {"p=3", "n=0", "b=0", "w=1", "c=1"};
        for (String test : hold) {
            Due.due(test, 8, readers("p=3&" + test).personIs(3, 0));
            Due.due("!" + test, 0, readers("p=3&!" + test).personIs(3, 0));
        }
        WhisperPress x = two(0, 1, 1, 2);
        x.person(2, 6, true);
        Due.gossip(x, "c=9999");
        Due.law(x, "e1(p<2&k<2);h10(1=1);r(p=2&n=2&b=9999&c=2)");
        Due.due("two WHISPERS", 2, x.weeks(1));
        Due.due("c is all of THE ISSUE", 7, x.personIs(2, 0));
    }
}
