import java.util.ArrayList;
import java.util.Arrays;
import java.util.List;
import java.util.TreeMap;

/**
 * The document told once more, as plainly as can be: laws are reckoned from their text, choices are
 * made by looking at all of them. RandomRunsTest holds the class against it.
 */
final class Model {
    /** A FAULT, and the end of a reckoning in which something is divided by 0. */
    private static final class Fault extends RuntimeException {
        private static final long serialVersionUID = 1L;
        final int answer;

        Fault(int number, int place) {
            super(null, null, false, false);
            answer = -1000 * number - place;
        }
    }

    private static final class Refused extends RuntimeException {
        private static final long serialVersionUID = 1L;

        Refused() {
            super(null, null, false, false);
        }
    }

    private static final class Person {
        int secrets;
        boolean reader;
        int breath;

        Person twin() {
            Person q = new Person();
            q.secrets = secrets;
            q.reader = reader;
            q.breath = breath;
            return q;
        }
    }

    private record Whisper(int from, int to, int secret) {
    }

    private record Rule(char kind, String value, String test) {
    }

    private static final class World {
        Person[] people = new Person[16];
        List<List<Whisper>> issues = new ArrayList<>();
        int week;
        int x = 1;

        World twin() {
            World w = new World();
            for (int p = 0; p < 16; p++) {
                w.people[p] = people[p] == null ? null : people[p].twin();
            }
            w.issues = new ArrayList<>(issues);
            w.week = week;
            w.x = x;
            return w;
        }

        int draw() {
            x = (int) ((25173L * x + 13849) % 65536);
            return x % 10;
        }
    }

    private World now = new World();
    private World kept;
    private List<Integer> tape = new ArrayList<>();
    private List<Rule> rules = new ArrayList<>();
    private List<String> words = new ArrayList<>();
    private int misprints;

    boolean person(int p, int secrets, boolean reader) {
        if (p < 0 || p > 15 || secrets < 0 || secrets > 65535) {
            return false;
        }
        now.people[p] = new Person();
        now.people[p].secrets = secrets;
        now.people[p].reader = reader;
        return true;
    }

    int feed(int a, int b, int c, int d, int e) {
        if (tape.size() + 20 > 260) {
            return -1;
        }
        for (int x : new int[] {a, b, c, d, e}) {
            for (int shift = 24; shift >= 0; shift -= 8) {
                tape.add(x >> shift & 255);
            }
        }
        return tape.size();
    }

    /** The first n bytes, the tape being empty then; null if it has not so many. */
    private int[] take(int n) {
        if (n > tape.size()) {
            return null;
        }
        int[] bytes = new int[n];
        for (int i = 0; i < n; i++) {
            bytes[i] = tape.get(i);
        }
        tape.clear();
        return bytes;
    }

    private String text(int n, int most) {
        int[] bytes = n < 1 || n > most ? null : take(n);
        if (bytes == null) {
            return null;
        }
        StringBuilder b = new StringBuilder();
        for (int x : bytes) {
            b.append((char) x);
        }
        return b.toString();
    }

    // ---- THE LAW: read from left to right, the rules kept as pieces of text

    private String t;
    private int at;

    private char sign() {
        return at < t.length() ? t.charAt(at) : '\uffff';
    }

    private boolean in(String signs) {
        return signs.indexOf(sign()) >= 0;
    }

    private void must(String signs) {
        if (!in(signs)) {
            throw new Fault(1, at);
        }
        at++;
    }

    int law(int n) {
        t = text(n, 240);
        if (t == null) {
            return -1;
        }
        List<Rule> read = new ArrayList<>();
        try {
            at = 0;
            while (true) {
                if (in("ehmr") && read.size() == 16) {
                    throw new Fault(4, at);
                }
                char kind = sign();
                must("ehmr");
                int from = at;
                if (kind != 'r') {
                    parseE(0);
                }
                int open = at;
                must("(");
                parseC(1);
                must(")");
                read.add(new Rule(kind, t.substring(from, open), t.substring(open, at)));
                if (at == t.length()) {
                    break;
                }
                must(";");
            }
        } catch (Fault f) {
            return f.answer;
        }
        rules = read;
        return rules.size();
    }

    private void parseC(int open) {
        parsePart(open);
        while (in("|")) {
            at++;
            parsePart(open);
        }
    }

    private void parsePart(int open) {
        parseTest(open);
        while (in("&")) {
            at++;
            parseTest(open);
        }
    }

    private void deeper(int open) {
        if (open == 6) {
            throw new Fault(5, at);
        }
        at++;
    }

    private void parseTest(int open) {
        if (in("!")) {
            deeper(open);
            parseTest(open + 1);
        } else if (in("(")) {
            deeper(open);
            parseC(open + 1);
            must(")");
        } else {
            parseE(open);
            must("<>=");
            parseE(open);
        }
    }

    private void parseE(int open) {
        parseTerm(open);
        while (in("+-")) {
            at++;
            parseTerm(open);
        }
    }

    private void parseTerm(int open) {
        parseFactor(open);
        while (in("*/%")) {
            at++;
            parseFactor(open);
        }
    }

    private void parseFactor(int open) {
        if (in("[")) {
            deeper(open);
            parseE(open + 1);
            must("]");
        } else if (in("0123456789")) {
            for (int digits = 0; in("0123456789"); digits++) {
                if (digits == 5) {
                    throw new Fault(2, at);
                }
                at++;
            }
        } else {
            must("pknoubdwc");
        }
    }

    // ---- THE LAW: reckoned from the text of a rule, facts by letter

    private final TreeMap<Character, Integer> facts = new TreeMap<>();

    private boolean holds(String test) {
        t = test;
        at = 0;
        try {
            return valueTest(true);
        } catch (Refused r) {
            return false;
        }
    }

    private int value(String value) {
        t = value;
        at = 0;
        try {
            return valueE(true);
        } catch (Refused r) {
            return 0;
        }
    }

    /** asked: whether it matters; what does not is only gone past. */
    private boolean valueC(boolean asked) {
        boolean one = valuePart(asked);
        while (in("|")) {
            at++;
            one |= valuePart(asked && !one);
        }
        return one;
    }

    private boolean valuePart(boolean asked) {
        boolean all = valueTest(asked);
        while (in("&")) {
            at++;
            all &= valueTest(asked && all);
        }
        return all;
    }

    private boolean valueTest(boolean asked) {
        if (in("!")) {
            at++;
            return !valueTest(asked) && asked;
        }
        if (in("(")) {
            at++;
            boolean c = valueC(asked);
            at++;
            return c;
        }
        int left = valueE(asked);
        char than = sign();
        at++;
        int right = valueE(asked);
        return asked && (than == '<' ? left < right : than == '>' ? left > right : left == right);
    }

    private int valueE(boolean asked) {
        int sum = valueTerm(asked);
        while (in("+-")) {
            boolean plus = in("+");
            at++;
            int term = valueTerm(asked);
            sum = plus ? sum + term : sum - term;
        }
        return sum;
    }

    private int valueTerm(boolean asked) {
        int product = valueFactor(asked);
        while (in("*/%")) {
            char sign = sign();
            at++;
            int factor = valueFactor(asked);
            if (sign != '*' && factor == 0) {
                if (asked) {
                    throw new Refused();
                }
                factor = 1;
            }
            product = sign == '*' ? product * factor : sign == '/' ? product / factor : product % factor;
        }
        return product;
    }

    private int valueFactor(boolean asked) {
        if (in("[")) {
            at++;
            int e = valueE(asked);
            at++;
            return e;
        }
        if (in("0123456789")) {
            int number = 0;
            for (; in("0123456789"); at++) {
                number = 10 * number + sign() - '0';
            }
            return number;
        }
        int fact = facts.get(sign());
        at++;
        return fact;
    }

    private void look(World w, int p, int k, int printed) {
        int his = w.people[p].secrets;
        int others = k < 0 ? 0 : w.people[k].secrets;
        facts.put('p', p);
        facts.put('k', Math.max(k, 0));
        facts.put('n', Integer.bitCount(his));
        facts.put('o', Integer.bitCount(others));
        facts.put('u', k < 0 ? 0 : Integer.bitCount(his & ~others));
        facts.put('b', w.people[p].breath);
        facts.put('d', k >= 0 && w.people[k].reader ? 1 : 0);
        facts.put('w', w.week % 100);
        facts.put('c', printed);
    }

    private int ask(char kind, int most) {
        for (Rule r : rules) {
            if (r.kind() == kind && holds(r.test())) {
                return Math.max(0, Math.min(most, value(r.value())));
            }
        }
        return 0;
    }

    private boolean reads() {
        boolean none = true;
        for (Rule r : rules) {
            if (r.kind() == 'r') {
                none = false;
                if (holds(r.test())) {
                    return true;
                }
            }
        }
        return none;
    }

    // ---- WEEKS

    private int week(World w) {
        if (w.week == 9999) {
            return -1;
        }
        List<Whisper> issue = new ArrayList<>();
        for (int p = 0; p < 16; p++) {
            if (w.people[p] != null) {
                turn(w, p, issue);
            }
        }
        w.issues.add(issue);
        if (w.issues.size() > 20) {
            w.issues.remove(0);
        }
        for (int p = 0; p < 16; p++) {
            if (w.people[p] != null && w.people[p].reader) {
                look(w, p, -1, issue.size());
                if (reads()) {
                    for (Whisper s : issue) {
                        w.people[p].secrets |= 1 << s.secret();
                    }
                }
            }
        }
        w.week++;
        return issue.size();
    }

    private void turn(World w, int p, List<Whisper> issue) {
        int chosen = -1;
        int most = 0;
        for (int k = 0; k < 16; k++) {
            if (k == p || w.people[k] == null || (w.people[p].secrets & ~w.people[k].secrets) == 0) {
                continue;
            }
            look(w, p, k, issue.size());
            int e = ask('e', 9999);
            if (e > most) {
                most = e;
                chosen = k;
            }
        }
        if (chosen < 0) {
            return;
        }
        look(w, p, chosen, issue.size());
        int h = ask('h', 10);
        int m = ask('m', 10);
        if (w.draw() >= h) {
            return;
        }
        int secret = Integer.numberOfTrailingZeros(w.people[p].secrets & ~w.people[chosen].secrets);
        w.people[chosen].secrets |= 1 << secret;
        w.people[p].breath = Math.min(9999, w.people[p].breath + 1);
        int to = chosen;
        if (w.draw() < m) {
            misprints++;
            do {
                to = (to + 1) % 16;
            } while (to == p || w.people[to] == null);
        }
        issue.add(new Whisper(p, to, secret));
    }

    int gossip(int n) {
        t = text(n, 120);
        if (t == null) {
            return -1;
        }
        World after = now.twin();
        int lines = 0;
        try {
            at = 0;
            while (true) {
                Person he = gossiped(after, lines == 20 ? 4 : 0, -1);
                int p = t.charAt(at - 1) - 'a';
                char verb = sign();
                must("+-!?>=");
                switch (verb) {
                    case '+', '-' -> {
                        int bit = 1 << (sign() - 'A');
                        must("ABCDEFGHIJKLMNOP");
                        he.secrets = verb == '+' ? he.secrets | bit : he.secrets & ~bit;
                    }
                    case '!', '?' -> he.reader = verb == '!';
                    case '>' -> gossiped(after, 0, p).secrets |= he.secrets;
                    default -> {
                        int from = at;
                        must("0123456789");
                        while (in("0123456789")) {
                            if (at - from == 4) {
                                throw new Fault(2, at);
                            }
                            at++;
                        }
                        he.breath = Integer.parseInt(t.substring(from, at));
                    }
                }
                lines++;
                if (at == t.length()) {
                    break;
                }
                must(";");
            }
        } catch (Fault f) {
            return f.answer;
        }
        now = after;
        return lines;
    }

    private Person gossiped(World w, int fault, int himself) {
        must("abcdefghijklmnop");
        int p = t.charAt(at - 1) - 'a';
        if (fault != 0) {
            throw new Fault(fault, at - 1);
        }
        if (p == himself) {
            throw new Fault(6, at - 1);
        }
        if (w.people[p] == null) {
            throw new Fault(7, at - 1);
        }
        return w.people[p];
    }

    int copy(int n) {
        t = text(n, 200);
        if (t == null) {
            return -1;
        }
        List<String> read = new ArrayList<>();
        try {
            at = 0;
            while (true) {
                int first = at;
                int times = 1;
                if (in("23456789")) {
                    times = sign() - '0';
                    at++;
                }
                int from = at;
                must("abcdefghijklmnopqrstuvwxyz");
                while (in("abcdefghijklmnopqrstuvwxyz")) {
                    if (at - from == 12) {
                        throw new Fault(2, at);
                    }
                    at++;
                }
                for (int i = 0; i < times; i++) {
                    read.add(t.substring(from, at));
                }
                if (read.size() > 60) {
                    throw new Fault(4, first);
                }
                if (at == t.length()) {
                    break;
                }
                must("_");
            }
        } catch (Fault f) {
            return f.answer;
        }
        words = read;
        return words.size();
    }

    int weeks(int n) {
        if (n < 1 || n > 100) {
            return -1;
        }
        int sum = 0;
        for (int i = 0; i < n; i++) {
            sum += Math.max(0, week(now));
        }
        return sum;
    }

    int tried(int n, int what) {
        boolean his = what >= 100 && what <= 115 && now.people[what - 100] != null;
        if (n < 1 || n > 100 || what < 0 || what > 3 && !his) {
            return -1;
        }
        World w = now.twin();
        misprints = 0;
        int sum = 0;
        for (int i = 0; i < n; i++) {
            sum += Math.max(0, week(w));
        }
        int any = 0;
        int all = 65535;
        int told = 0;
        for (Person q : w.people) {
            if (q != null) {
                told++;
                any |= q.secrets;
                all &= q.secrets;
            }
        }
        return what == 0 ? sum : what == 1 ? misprints : what == 2 ? any
                : what == 3 ? (told == 0 ? 0 : all) : w.people[what - 100].secrets;
    }

    int personIs(int p, int what) {
        if (p < 0 || p > 15 || now.people[p] == null || what < 0 || what > 3) {
            return -1;
        }
        Person q = now.people[p];
        return new int[] {q.secrets, Integer.bitCount(q.secrets), q.reader ? 1 : 0, q.breath}[what];
    }

    int allKnow(int secret, int n) {
        if (secret < 0 || secret > 15 || n < 1 || n > 100) {
            return -1;
        }
        World w = now.twin();
        for (int gone = 0; gone <= n; gone++) {
            boolean told = false;
            boolean all = true;
            for (Person q : w.people) {
                told |= q != null;
                all &= q == null || (q.secrets >> secret & 1) == 1;
            }
            if (told && all) {
                return gone;
            }
            week(w);
        }
        return -2;
    }

    int whose(int secret) {
        if (secret < 0 || secret > 15) {
            return -1;
        }
        int bits = 0;
        for (int p = 0; p < 16; p++) {
            if (now.people[p] != null && (now.people[p].secrets >> secret & 1) == 1) {
                bits |= 1 << p;
            }
        }
        return bits;
    }

    int alone() {
        int bits = 0;
        for (int p = 0; p < 16; p++) {
            int others = 0;
            for (int q = 0; q < 16; q++) {
                others |= q == p || now.people[q] == null ? 0 : now.people[q].secrets;
            }
            if (now.people[p] != null && (now.people[p].secrets & ~others) != 0) {
                bits |= 1 << p;
            }
        }
        return bits;
    }

    int enough(int what) {
        if (what < 0 || what > 1) {
            return -1;
        }
        int[] sets = new int[16];
        int all = 0;
        for (int p = 0; p < 16; p++) {
            sets[p] = now.people[p] == null ? 0 : now.people[p].secrets;
            all |= sets[p];
        }
        int best = 65535;
        for (int bits = 65535; bits >= 0; bits--) {
            int known = 0;
            for (int rest = bits; rest != 0; rest &= rest - 1) {
                known |= sets[Integer.numberOfTrailingZeros(rest)];
            }
            if (known == all && Integer.bitCount(bits) <= Integer.bitCount(best)) {
                best = bits;
            }
        }
        return what == 0 ? Integer.bitCount(best) : best;
    }

    private List<Whisper> ago(int i) {
        return now.issues.get(now.issues.size() - i);
    }

    int backNumber(int i, int what) {
        if (i < 1 || i > 20 || what < 0 || what > 47 && what != 100) {
            return -1;
        }
        if (i > now.issues.size()) {
            return -2;
        }
        if (what == 100) {
            return ago(i).size();
        }
        if (what / 3 >= ago(i).size()) {
            return -4;
        }
        Whisper s = ago(i).get(what / 3);
        return new int[] {s.from(), s.to(), s.secret()}[what % 3];
    }

    int blackmail(int secrets, int what) {
        if (secrets < 0 || secrets > 65535 || what < 0 || what > 1) {
            return -1;
        }
        int issues = now.issues.size();
        int[] printed = new int[issues + 1];
        for (int i = 1; i <= issues; i++) {
            for (Whisper s : ago(i)) {
                printed[i] |= 1 << s.secret();
            }
        }
        int bestMany = 99;
        int bestOldest = 99;
        for (int bits = 0; bits < 1 << issues; bits++) {
            int many = Integer.bitCount(bits);
            int oldest = 32 - Integer.numberOfLeadingZeros(bits);
            if (many > bestMany || many == bestMany && oldest >= bestOldest) {
                continue;
            }
            int known = 0;
            for (int rest = bits; rest != 0; rest &= rest - 1) {
                known |= printed[1 + Integer.numberOfTrailingZeros(rest)];
            }
            if ((secrets & ~known) == 0) {
                bestMany = many;
                bestOldest = oldest;
            }
        }
        return bestMany == 99 ? -2 : what == 0 ? bestMany : bestOldest;
    }

    int mostPrinted(int what) {
        if (what < 0 || what > 1) {
            return -1;
        }
        int[] times = new int[16];
        now.issues.forEach(issue -> issue.forEach(s -> times[s.to()]++));
        int most = Arrays.stream(times).max().getAsInt();
        for (int p = 0; p < 16 && what == 0; p++) {
            if (times[p] == most && most > 0) {
                return p;
            }
        }
        return what == 0 ? -2 : most;
    }

    int silent(int n) {
        if (n < 1 || n > 100) {
            return -1;
        }
        World w = now.twin();
        StringBuilder b = new StringBuilder();
        for (int i = 0; i < n; i++) {
            int printed = week(w);
            b.append(printed == 0 ? "s" : printed > 0 ? " " : "");
        }
        int longest = 0;
        for (String row : b.toString().split(" ")) {
            longest = Math.max(longest, row.length());
        }
        return longest;
    }

    int pair(int what) {
        if (what < 0 || what > 2) {
            return -1;
        }
        TreeMap<Integer, Integer> times = new TreeMap<>();
        now.issues.forEach(issue -> issue.forEach(s -> times.merge(100 * s.from() + s.to(), 1, Integer::sum)));
        int best = -1;
        for (int key : times.keySet()) {
            if (best < 0 || times.get(key) > times.get(best)) {
                best = key;
            }
        }
        if (best < 0) {
            return what == 2 ? 0 : -2;
        }
        return what == 0 ? best / 100 : what == 1 ? best % 100 : times.get(best);
    }

    int reached(int p) {
        if (p < 0 || p > 15) {
            return -1;
        }
        int bits = 0;
        for (int round = 0; round < 20; round++) {
            for (List<Whisper> issue : now.issues) {
                for (Whisper s : issue) {
                    if (s.from() == p || (bits >> s.from() & 1) == 1) {
                        bits |= 1 << s.to();
                    }
                }
            }
        }
        return bits;
    }

    // ---- COPY: of all ways to set it the best, told as {squares, lines, words in each line}

    private TreeMap<Integer, List<Integer>> bestFrom = new TreeMap<>();

    private List<Integer> setFrom(int first, int wide) {
        if (first == words.size()) {
            return List.of(0, 0);
        }
        if (bestFrom.containsKey(first)) {
            return bestFrom.get(first);
        }
        List<Integer> best = null;
        for (int next = first + 1; next <= words.size(); next++) {
            int width = String.join(" ", words.subList(first, next)).length();
            if (width > wide) {
                break;
            }
            List<Integer> rest = setFrom(next, wide);
            int free = next == words.size() ? 0 : wide - width;
            List<Integer> way = new ArrayList<>(List.of(rest.get(0) + free * free, rest.get(1) + 1, next - first));
            way.addAll(rest.subList(2, rest.size()));
            if (best == null || isBetter(way, best)) {
                best = way;
            }
        }
        bestFrom.put(first, best);
        return best;
    }

    private static boolean isBetter(List<Integer> one, List<Integer> other) {
        for (int i = 0; i < Math.min(one.size(), other.size()); i++) {
            int differs = Integer.compare(one.get(i), other.get(i));
            if (differs != 0) {
                return i < 2 ? differs < 0 : differs > 0;
            }
        }
        return false;
    }

    private List<Integer> setIn(int wide) {
        bestFrom = new TreeMap<>();
        return setFrom(0, wide);
    }

    int lineOf(int wide, int i) {
        if (wide < 12 || wide > 60 || i < 0 || i >= words.size()) {
            return -1;
        }
        List<Integer> way = setIn(wide);
        int line = 0;
        for (int gone = way.get(2); gone <= i; gone += way.get(2 + line)) {
            line++;
        }
        return line;
    }

    int copyIs(int what) {
        String all = String.join("", words);
        return what == 0 ? all.length()
                : what == 1 ? words.stream().mapToInt(String::length).max().orElse(0)
                : what == 2 ? (int) all.chars().distinct().count() : -1;
    }

    int set(int wide, int what) {
        if (wide < 12 || wide > 60 || what < 0 || what > 2) {
            return -1;
        }
        return words.isEmpty() ? 0 : setIn(wide).get(what);
    }

    int type(int letter) {
        return letter < 0 || letter > 25 ? -1
                : (int) String.join("", words).chars().filter(c -> c == 'a' + letter).count();
    }

    int bought(int each) {
        if (each < 0 || each > 255) {
            return -1;
        }
        int sum = 0;
        for (int letter = 0; letter < 26; letter++) {
            sum += Math.max(0, type(letter) - each);
        }
        return sum;
    }

    // ---- the desk

    int nuns(int n, int many) {
        int[] work = n < 1 || n > 8 || many < 2 || many > 3 ? null : take(n);
        if (work == null) {
            return -1;
        }
        int best = Integer.MAX_VALUE;
        for (int way = 0; way < Math.pow(many, n); way++) {
            int[] loads = new int[many];
            int rest = way;
            for (int i = 0; i < n; i++) {
                loads[rest % many] += work[i];
                rest /= many;
            }
            best = Math.min(best, Arrays.stream(loads).max().getAsInt());
        }
        return best;
    }

    int space(int n, int high, int what) {
        int[] b = n < 1 || n > 10 || high < 0 || high > 255 || what < 0 || what > 1 ? null : take(2 * n);
        if (b == null) {
            return -1;
        }
        int most = 0;
        int best = 0;
        for (int bits = (1 << n) - 1; bits >= 0; bits--) {
            int used = 0;
            int paid = 0;
            for (int i = 0; i < n; i++) {
                if (b[2 * i] < 1 || b[2 * i] > 60) {
                    return -3;
                }
                used += (bits >> i & 1) * b[2 * i];
                paid += (bits >> i & 1) * b[2 * i + 1];
            }
            if (used <= high && paid >= most) {
                most = paid;
                best = bits;
            }
        }
        return what == 0 ? most : best;
    }

    int style(int n, int what) {
        int[] b = n < 2 || n > 6 || what < 0 || what > 1 ? null : take(4 * n + 4);
        if (b == null) {
            return -1;
        }
        int least = 9999;
        int who = -1;
        for (int i = 0; i < n; i++) {
            int differs = 0;
            for (int j = 0; j < 4; j++) {
                differs += Math.abs(b[4 * i + j] - b[4 * n + j]);
            }
            if (differs < least) {
                least = differs;
                who = i;
            }
        }
        return what == 0 ? who : least;
    }

    int names(int n, int m) {
        int[] b = n < 1 || n > 12 || m < 1 || m > 12 ? null : take(n + m);
        if (b == null) {
            return -1;
        }
        Integer[][] known = new Integer[n + 1][m + 1];
        return apart(Arrays.copyOfRange(b, 0, n), Arrays.copyOfRange(b, n, n + m), 0, 0, known);
    }

    private static int apart(int[] a, int[] b, int i, int j, Integer[][] known) {
        if (i == a.length || j == b.length) {
            return a.length - i + b.length - j;
        }
        if (known[i][j] == null) {
            int best = apart(a, b, i + 1, j + 1, known) + (a[i] == b[j] ? 0 : 1);
            best = Math.min(best, 1 + apart(a, b, i + 1, j, known));
            best = Math.min(best, 1 + apart(a, b, i, j + 1, known));
            if (i + 1 < a.length && j + 1 < b.length && a[i] == b[j + 1] && a[i + 1] == b[j]) {
                best = Math.min(best, 1 + apart(a, b, i + 2, j + 2, known));
            }
            known[i][j] = best;
        }
        return known[i][j];
    }

    int duty(int p, int n) {
        int[] b = p < 0 || p > 15 || now.people[p] == null || n < 1 || n > 6 ? null : take(2 * n);
        if (b == null) {
            return -1;
        }
        for (int i = 0; i < n; i++) {
            if (b[2 * i] <= (i == 0 ? 0 : b[2 * i - 2])) {
                return -3;
            }
        }
        int sum = 0;
        for (int whisper = 1; whisper <= now.people[p].breath; whisper++) {
            for (int i = 0; i < n; i++) {
                if (whisper <= 10 * b[2 * i]) {
                    sum += b[2 * i + 1];
                    break;
                }
            }
        }
        return sum;
    }

    int hands(int n, int what) {
        int[] b = n < 2 || n > 16 || what < 0 || what > 1 ? null : take(2 * n);
        if (b == null) {
            return -1;
        }
        int most = 0;
        int who = 0;
        for (int i = 1; i < n; i++) {
            if (b[2 * i] >= i || b[2 * i + 1] > 15) {
                return -2;
            }
            int days = 0;
            for (int q = i; q > 0; q = b[2 * q]) {
                days += b[2 * q + 1];
            }
            if (days > most) {
                most = days;
                who = i;
            }
        }
        return what == 0 ? most : who;
    }

    boolean seed(int x) {
        if (x < 0 || x > 65535) {
            return false;
        }
        now.x = x;
        return true;
    }

    int keep() {
        kept = now.twin();
        return now.week;
    }

    boolean undo() {
        if (kept == null) {
            return false;
        }
        now = kept.twin();
        return true;
    }

    int check(int n) {
        int[] b = n < 0 || n > 16 ? null : take(n);
        if (b == null) {
            return -2;
        }
        for (int p = 0; p < n; p++) {
            if (b[p] != (now.people[p] == null ? 255 : Integer.bitCount(now.people[p].secrets))) {
                return p;
            }
        }
        return -1;
    }

    int count(int what) {
        int told = 0;
        int readers = 0;
        int breath = 0;
        for (int p = 0; p < 16; p++) {
            if (now.people[p] != null) {
                told |= 1 << p;
                readers |= now.people[p].reader ? 1 << p : 0;
                breath += now.people[p].breath;
            }
        }
        int[] counts = {now.week, told, readers, now.issues.size(), words.size(), rules.size(), tape.size(),
            now.x, breath};
        return what < 0 || what > 8 ? -1 : counts[what];
    }
}
