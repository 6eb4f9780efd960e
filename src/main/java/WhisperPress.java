/**
 * The press of whispers, as ../shared/DOC.md promises it.
 *
 * No call makes an object: all rows are made with the press and used again,
 * since all calls of a run live in one room.
 */
public final class WhisperPress {
    public static final int NONE = -1;

    private static final int PEOPLE = 16;
    private static final int SECRETS = 16;
    private static final int ALL_SECRETS = 65535;
    private static final int ISSUES_KEPT = 20;
    private static final int LAST_WEEK = 9999;
    private static final int MOST_BREATH = 9999;
    private static final int MOST_WEEKS = 100;
    private static final int BYTE = 255;

    private static final int TAPE_BYTES = 260;
    private static final int FED_BYTES = 20;
    private static final int LAW_BYTES = 240;
    private static final int GOSSIP_BYTES = 120;
    private static final int COPY_BYTES = 200;

    /** Answers beside NONE, where the document tells more than one. */
    private static final int NOT_THERE = -2;
    private static final int NOT_FIT = -3;
    private static final int NO_WHISPER = -4;

    /** The numbers of the FAULTS. */
    private static final int CANNOT_STAND = 1;
    private static final int TOO_LONG = 2;
    private static final int TOO_MANY = 4;
    private static final int TOO_DEEP = 5;
    private static final int HIMSELF = 6;
    private static final int NOT_TOLD = 7;

    private static final int NARROWEST = 12;
    private static final int WIDEST = 60;
    private static final int ASK_PERSON = 100;
    private static final int ASK_HOW_MANY = 100;

    private final Tape tape;
    private final State now;
    private final State kept;
    private final State trial;
    private boolean isKept;
    private final LawBook lawBook;
    private final Week week;
    private final GossipSheet gossipSheet;
    private CopySheet copySheet;
    private CopySheet copyDraft;
    private final Setting setting;
    private final Cover cover;
    private final Archive archive;
    private final Desk desk;

    public WhisperPress() {
        tape = new Tape();
        now = new State();
        kept = new State();
        trial = new State();
        isKept = false;
        lawBook = new LawBook();
        week = new Week();
        gossipSheet = new GossipSheet();
        copySheet = new CopySheet();
        copyDraft = new CopySheet();
        setting = new Setting();
        cover = new Cover();
        archive = new Archive();
        desk = new Desk();
    }

    public boolean person(int p, int secrets, boolean reader) {
        if (!isPerson(p) || !isWithin(secrets, 0, ALL_SECRETS)) {
            return false;
        }
        now.tells(p, secrets, reader);
        return true;
    }

    public int feed(int a, int b, int c, int d, int e) {
        if (tape.length + FED_BYTES > TAPE_BYTES) {
            return NONE;
        }
        tape.puts(a);
        tape.puts(b);
        tape.puts(c);
        tape.puts(d);
        tape.puts(e);
        return tape.length;
    }

    public int law(int n) {
        if (!isWithin(n, 1, LAW_BYTES) || !tape.opens(n)) {
            return NONE;
        }
        boolean isWhole = lawBook.reads(tape);
        tape.empties();
        return isWhole ? lawBook.standing.rules : tape.fault;
    }

    public int gossip(int n) {
        if (!isWithin(n, 1, GOSSIP_BYTES) || !tape.opens(n)) {
            return NONE;
        }
        boolean isWhole = gossipSheet.reads(tape, now.told);
        tape.empties();
        if (!isWhole) {
            return tape.fault;
        }
        gossipSheet.isDoneTo(now);
        return gossipSheet.lines;
    }

    public int copy(int n) {
        if (!isWithin(n, 1, COPY_BYTES) || !tape.opens(n)) {
            return NONE;
        }
        boolean isWhole = copyDraft.reads(tape);
        tape.empties();
        if (!isWhole) {
            return tape.fault;
        }
        CopySheet before = copySheet;
        copySheet = copyDraft;
        copyDraft = before;
        return copySheet.words;
    }

    public int weeks(int n) {
        if (!isWithin(n, 1, MOST_WEEKS)) {
            return NONE;
        }
        return week.goesByTimes(n, now, lawBook.standing);
    }

    public int tried(int n, int what) {
        boolean asksPerson = now.isTold(what - ASK_PERSON);
        if (!isWithin(n, 1, MOST_WEEKS) || !(isWithin(what, 0, 3) || asksPerson)) {
            return NONE;
        }
        trial.becomes(now);
        int printed = week.goesByTimes(n, trial, lawBook.standing);
        switch (what) {
            case 0:
                return printed;
            case 1:
                return week.misprints;
            case 2:
                return trial.knownToAny();
            case 3:
                return trial.knownToAll();
            default:
                return trial.secretsOf(what - ASK_PERSON);
        }
    }

    public int personIs(int p, int what) {
        if (!now.isTold(p)) {
            return NONE;
        }
        switch (what) {
            case 0:
                return now.secrets[p];
            case 1:
                return Integer.bitCount(now.secrets[p]);
            case 2:
                return now.isReader(p) ? 1 : 0;
            case 3:
                return now.breath[p];
            default:
                return NONE;
        }
    }

    public int allKnow(int secret, int n) {
        if (!isSecret(secret) || !isWithin(n, 1, MOST_WEEKS)) {
            return NONE;
        }
        trial.becomes(now);
        for (int gone = 0; gone <= n; gone++) {
            if (hasBit(trial.knownToAll(), secret)) {
                return gone;
            }
            if (gone == n || week.goesBy(trial, lawBook.standing) == NONE) {
                return NOT_THERE;
            }
        }
        return NOT_THERE;
    }

    public int whose(int secret) {
        if (!isSecret(secret)) {
            return NONE;
        }
        return now.whoKnow(secret);
    }

    public int alone() {
        int bits = 0;
        for (int secret = 0; secret < SECRETS; secret++) {
            int who = now.whoKnow(secret);
            if (Integer.bitCount(who) == 1) {
                bits |= who;
            }
        }
        return bits;
    }

    public int enough(int what) {
        if (!isWithin(what, 0, 1)) {
            return NONE;
        }
        for (int p = 0; p < PEOPLE; p++) {
            cover.sets[p] = now.secretsOf(p);
        }
        cover.finds(PEOPLE, now.knownToAny());
        return what == 0 ? Integer.bitCount(cover.chosen) : cover.chosen;
    }

    public int backNumber(int i, int what) {
        boolean asksWhisper = isWithin(what, 0, 3 * PEOPLE - 1);
        if (!isWithin(i, 1, ISSUES_KEPT) || !(asksWhisper || what == ASK_HOW_MANY)) {
            return NONE;
        }
        if (i > now.issues()) {
            return NOT_THERE;
        }
        int slot = now.slotOf(i);
        if (what == ASK_HOW_MANY) {
            return now.printed[slot];
        }
        int j = what / 3;
        if (j >= now.printed[slot]) {
            return NO_WHISPER;
        }
        int whisper = now.whisperOf(slot, j);
        switch (what % 3) {
            case 0:
                return fromOf(whisper);
            case 1:
                return toOf(whisper);
            default:
                return secretOf(whisper);
        }
    }

    public int blackmail(int secrets, int what) {
        if (!isWithin(secrets, 0, ALL_SECRETS) || !isWithin(what, 0, 1)) {
            return NONE;
        }
        int issues = now.issues();
        for (int i = 1; i <= issues; i++) {
            cover.sets[i - 1] = now.secretsIn(now.slotOf(i));
        }
        if (!cover.finds(issues, secrets)) {
            return NOT_THERE;
        }
        // Of like covers the least bits are those whose highest bit, the oldest, is least.
        return what == 0 ? Integer.bitCount(cover.chosen) : 32 - Integer.numberOfLeadingZeros(cover.chosen);
    }

    public int mostPrinted(int what) {
        if (!isWithin(what, 0, 1)) {
            return NONE;
        }
        archive.tallies(now);
        int who = archive.mostWhisperedTo();
        int times = archive.timesTo(who);
        if (what == 1) {
            return times;
        }
        return times == 0 ? NOT_THERE : who;
    }

    public int silent(int n) {
        if (!isWithin(n, 1, MOST_WEEKS)) {
            return NONE;
        }
        trial.becomes(now);
        int row = 0;
        int longest = 0;
        for (int i = 0; i < n; i++) {
            int printed = week.goesBy(trial, lawBook.standing);
            if (printed == NONE) {
                break;
            }
            row = printed == 0 ? row + 1 : 0;
            longest = Math.max(longest, row);
        }
        return longest;
    }

    public int pair(int what) {
        if (!isWithin(what, 0, 2)) {
            return NONE;
        }
        archive.tallies(now);
        int pair = archive.mostOftenPair();
        int times = archive.pairs[pair];
        if (what == 2) {
            return times;
        }
        if (times == 0) {
            return NOT_THERE;
        }
        return what == 0 ? pair / PEOPLE : pair % PEOPLE;
    }

    public int reached(int p) {
        if (!isPerson(p)) {
            return NONE;
        }
        archive.tallies(now);
        return archive.reachedFrom(p);
    }

    public int lineOf(int wide, int i) {
        if (!isWithin(wide, NARROWEST, WIDEST) || !isWithin(i, 0, copySheet.words - 1)) {
            return NONE;
        }
        setting.sets(copySheet, wide);
        return setting.lineWith(i);
    }

    public int copyIs(int what) {
        switch (what) {
            case 0:
                return copySheet.allLetters();
            case 1:
                return copySheet.longestWord();
            case 2:
                return copySheet.unlikeLetters();
            default:
                return NONE;
        }
    }

    public int set(int wide, int what) {
        if (!isWithin(wide, NARROWEST, WIDEST) || !isWithin(what, 0, 2)) {
            return NONE;
        }
        setting.sets(copySheet, wide);
        switch (what) {
            case 0:
                return setting.squares[0];
            case 1:
                return setting.lines[0];
            default:
                return setting.nextLine[0];
        }
    }

    public int type(int letter) {
        return isLetter(letter) ? copySheet.uses[letter] : NONE;
    }

    public int bought(int each) {
        if (!isWithin(each, 0, BYTE)) {
            return NONE;
        }
        return copySheet.lackingTypes(each);
    }

    public int nuns(int n, int many) {
        if (!isWithin(n, 1, 8) || !isWithin(many, 2, 3) || !tape.opens(n)) {
            return NONE;
        }
        int time = desk.timeOfNuns(tape, n, many);
        tape.empties();
        return time;
    }

    public int space(int n, int high, int what) {
        if (!isWithin(n, 1, 10) || !isWithin(high, 0, BYTE) || !isWithin(what, 0, 1) || !tape.opens(2 * n)) {
            return NONE;
        }
        int bits = Desk.noticesThatPayMost(tape, n, high);
        int answer = what == 1 || bits == NOT_FIT ? bits : Desk.paidFor(tape, n, bits);
        tape.empties();
        return answer;
    }

    public int style(int n, int what) {
        if (!isWithin(n, 2, 6) || !isWithin(what, 0, 1) || !tape.opens(4 * n + 4)) {
            return NONE;
        }
        int writer = Desk.nearestWriter(tape, n);
        int answer = what == 0 ? writer : Desk.differenceOf(tape, n, writer);
        tape.empties();
        return answer;
    }

    public int names(int n, int m) {
        if (!isWithin(n, 1, Desk.NAME) || !isWithin(m, 1, Desk.NAME) || !tape.opens(n + m)) {
            return NONE;
        }
        int apart = desk.lettersApart(tape, n, m);
        tape.empties();
        return apart;
    }

    public int duty(int p, int n) {
        if (!now.isTold(p) || !isWithin(n, 1, 6) || !tape.opens(2 * n)) {
            return NONE;
        }
        int owed = Desk.dutyOn(tape, n, now.breath[p]);
        tape.empties();
        return owed;
    }

    public int hands(int n, int what) {
        if (!isWithin(n, 2, PEOPLE) || !isWithin(what, 0, 1) || !tape.opens(2 * n)) {
            return NONE;
        }
        int last = desk.lastToGetIt(tape, n);
        tape.empties();
        return what == 1 || last == NOT_THERE ? last : desk.days[last];
    }

    public boolean seed(int x) {
        if (!isWithin(x, 0, 65535)) {
            return false;
        }
        now.x = x;
        return true;
    }

    public int keep() {
        kept.becomes(now);
        isKept = true;
        return now.week;
    }

    public boolean undo() {
        if (!isKept) {
            return false;
        }
        now.becomes(kept);
        return true;
    }

    public int check(int n) {
        if (!isWithin(n, 0, PEOPLE) || !tape.opens(n)) {
            return NOT_THERE;
        }
        int wrong = NONE;
        for (int p = 0; p < n && wrong == NONE; p++) {
            int due = now.isTold(p) ? Integer.bitCount(now.secrets[p]) : BYTE;
            if (tape.byteAt(p) != due) {
                wrong = p;
            }
        }
        tape.empties();
        return wrong;
    }

    public int count(int what) {
        switch (what) {
            case 0:
                return now.week;
            case 1:
                return now.told;
            case 2:
                return now.readers;
            case 3:
                return now.issues();
            case 4:
                return copySheet.words;
            case 5:
                return lawBook.standing.rules;
            case 6:
                return tape.length;
            case 7:
                return now.x;
            case 8:
                return now.allBreath();
            default:
                return NONE;
        }
    }

    private static boolean isWithin(int x, int least, int most) {
        return x >= least && x <= most;
    }

    private static boolean isPerson(int p) {
        return isWithin(p, 0, PEOPLE - 1);
    }

    private static boolean isSecret(int secret) {
        return isWithin(secret, 0, SECRETS - 1);
    }

    private static boolean isLetter(int letter) {
        return isWithin(letter, 0, CopySheet.LETTERS - 1);
    }

    private static boolean hasBit(int bits, int i) {
        return (bits >> i & 1) != 0;
    }

    /** A WHISPER is kept in one number, so that an ISSUE is one short row. */
    private static int packedWhisper(int from, int to, int secret) {
        return from | to << 4 | secret << 8;
    }

    private static int fromOf(int whisper) {
        return whisper & 15;
    }

    private static int toOf(int whisper) {
        return whisper >> 4 & 15;
    }

    private static int secretOf(int whisper) {
        return whisper >> 8 & 15;
    }

    /** The tape, and the text that is read from its start. */
    private static final class Tape {
        /** What stands behind the last byte; no byte is like it. */
        static final int END = -1;

        final int[] bytes = new int[TAPE_BYTES];
        int length;
        int at;
        int fault;

        void puts(int four) {
            for (int shift = 24; shift >= 0; shift -= 8) {
                if (length < TAPE_BYTES) {
                    bytes[length] = four >>> shift & BYTE;
                    length++;
                }
            }
        }

        /** Cuts the tape to its first n bytes and goes to their start, if there are so many. */
        boolean opens(int n) {
            if (!isWithin(n, 0, length)) {
                return false;
            }
            length = n;
            at = 0;
            fault = 0;
            return true;
        }

        void empties() {
            length = 0;
        }

        int byteAt(int i) {
            return i >= 0 && i < length ? bytes[i] : END;
        }

        int sign() {
            return at < length ? bytes[at] : END;
        }

        boolean isOver() {
            return at >= length;
        }

        boolean takes(int sign) {
            if (sign() != sign) {
                return false;
            }
            at++;
            return true;
        }

        boolean needs(int sign) {
            if (sign() != sign) {
                return fails(CANNOT_STAND);
            }
            at++;
            return true;
        }

        boolean fails(int number) {
            fault = -1000 * number - at;
            return false;
        }

        boolean failsAt(int number, int place) {
            at = place;
            return fails(number);
        }

        /** A number of so many digits at the most; NONE if it has a FAULT. */
        int number(int digits) {
            int value = 0;
            for (int i = 0; i <= digits; i++) {
                int digit = sign() - '0';
                if (!isWithin(digit, 0, 9)) {
                    if (i == 0) {
                        fails(CANNOT_STAND);
                        return NONE;
                    }
                    return value;
                }
                if (i == digits) {
                    fails(TOO_LONG);
                    return NONE;
                }
                value = 10 * value + digit;
                at++;
            }
            return value;
        }
    }

    /** What is KEPT and UNDONE: PEOPLE, BACK NUMBERS, THE WEEK, X. */
    private static final class State {
        final int[] secrets = new int[PEOPLE];
        final int[] breath = new int[PEOPLE];
        final int[] printed = new int[ISSUES_KEPT];
        final int[] whispers = new int[ISSUES_KEPT * PEOPLE];
        int told;
        int readers;
        int week;
        int x = 1;

        void becomes(State other) {
            System.arraycopy(other.secrets, 0, secrets, 0, PEOPLE);
            System.arraycopy(other.breath, 0, breath, 0, PEOPLE);
            System.arraycopy(other.printed, 0, printed, 0, ISSUES_KEPT);
            System.arraycopy(other.whispers, 0, whispers, 0, ISSUES_KEPT * PEOPLE);
            told = other.told;
            readers = other.readers;
            week = other.week;
            x = other.x;
        }

        void tells(int p, int his, boolean reader) {
            told |= 1 << p;
            secrets[p] = his;
            breath[p] = 0;
            reads(p, reader);
        }

        void reads(int p, boolean reader) {
            readers = reader ? readers | 1 << p : readers & ~(1 << p);
        }

        boolean isTold(int p) {
            return isPerson(p) && hasBit(told, p);
        }

        boolean isReader(int p) {
            return isPerson(p) && hasBit(readers, p);
        }

        int secretsOf(int p) {
            return isTold(p) ? secrets[p] : 0;
        }

        int knownToAny() {
            int known = 0;
            for (int p = 0; p < PEOPLE; p++) {
                known |= secretsOf(p);
            }
            return known;
        }

        int knownToAll() {
            int known = told == 0 ? 0 : ALL_SECRETS;
            for (int p = 0; p < PEOPLE; p++) {
                if (isTold(p)) {
                    known &= secrets[p];
                }
            }
            return known;
        }

        int whoKnow(int secret) {
            int bits = 0;
            for (int p = 0; p < PEOPLE; p++) {
                if (hasBit(secretsOf(p), secret)) {
                    bits |= 1 << p;
                }
            }
            return bits;
        }

        int allBreath() {
            int sum = 0;
            for (int p = 0; p < PEOPLE; p++) {
                sum += breath[p];
            }
            return sum;
        }

        int draw() {
            x = (25173 * x + 13849) & 65535;
            return x % 10;
        }

        /** Each WEEK prints one ISSUE, so THE WEEK tells how many are kept and where each stands. */
        int issues() {
            return Math.min(week, ISSUES_KEPT);
        }

        /** Where the ISSUE of i weeks ago stands; of 0 weeks ago: the one that is being printed. */
        int slotOf(int i) {
            return Math.floorMod(week - i, ISSUES_KEPT);
        }

        int whisperOf(int slot, int j) {
            return whispers[slot * PEOPLE + j];
        }

        void prints(int slot, int whisper) {
            int j = printed[slot];
            if (j < PEOPLE) {
                whispers[slot * PEOPLE + j] = whisper;
                printed[slot] = j + 1;
            }
        }

        int secretsIn(int slot) {
            int bits = 0;
            for (int j = 0; j < printed[slot]; j++) {
                bits |= 1 << secretOf(whisperOf(slot, j));
            }
            return bits;
        }
    }

    /**
     * THE LAW as code for a stack: values behind one another, then the sign that joins them.
     * An & or | skips to the place args tells if what stands on the stack settles it.
     */
    private static final class Law {
        static final int MOST_RULES = 16;
        /** Codes beside the signs of the text, which stand for themselves. */
        static final int NUMBER = 0;
        static final int FACT = 1;

        final int[] codes = new int[LAW_BYTES];
        final int[] args = new int[LAW_BYTES];
        final int[] kinds = new int[MOST_RULES];
        final int[] valueFrom = new int[MOST_RULES];
        final int[] testFrom = new int[MOST_RULES];
        final int[] testTo = new int[MOST_RULES];
        int size;
        int rules;

        void clears() {
            size = 0;
            rules = 0;
        }

        /** Each code comes of a byte of its own, so there are never more than LAW_BYTES. */
        int puts(int code, int arg) {
            if (size >= LAW_BYTES) {
                return NONE;
            }
            codes[size] = code;
            args[size] = arg;
            size++;
            return size - 1;
        }

        void joins(int sign) {
            if (sign != NONE) {
                puts(sign, 0);
            }
        }

        void landsHere(int skip) {
            if (isWithin(skip, 0, size - 1)) {
                args[skip] = size;
            }
        }

        boolean hasKind(int kind) {
            for (int rule = 0; rule < rules; rule++) {
                if (kinds[rule] == kind) {
                    return true;
                }
            }
            return false;
        }
    }

    /** Reads THE LAW into a draft, which stands in place of the one before if it has no FAULT. */
    private static final class LawBook {
        static final int MOST_OPEN = 6;
        static final int DIGITS = 5;

        Law standing = new Law();
        Law draft = new Law();

        boolean reads(Tape text) {
            draft.clears();
            for (int rule = 0; rule <= Law.MOST_RULES; rule++) {
                int kind = text.sign();
                if (kind != 'e' && kind != 'h' && kind != 'm' && kind != 'r') {
                    return text.fails(CANNOT_STAND);
                }
                if (rule == Law.MOST_RULES) {
                    return text.fails(TOO_MANY);
                }
                text.at++;
                draft.kinds[rule] = kind;
                draft.valueFrom[rule] = draft.size;
                if (kind != 'r' && !readsValue(text, 0)) {
                    return false;
                }
                draft.testFrom[rule] = draft.size;
                if (!text.needs('(') || !readsCondition(text, 1) || !text.needs(')')) {
                    return false;
                }
                draft.testTo[rule] = draft.size;
                draft.rules++;
                if (text.isOver()) {
                    takesEffect();
                    return true;
                }
                if (!text.needs(';')) {
                    return false;
                }
            }
            return false;
        }

        private void takesEffect() {
            Law before = standing;
            standing = draft;
            draft = before;
        }

        /** C, with so many of ( [ ! open around it. */
        private boolean readsCondition(Tape text, int open) {
            int and = NONE;
            int or = NONE;
            for (int i = 0; i < LAW_BYTES; i++) {
                if (!readsTest(text, open)) {
                    return false;
                }
                draft.landsHere(and);
                and = NONE;
                if (text.takes('&')) {
                    and = draft.puts('&', 0);
                } else {
                    draft.landsHere(or);
                    if (!text.takes('|')) {
                        return true;
                    }
                    or = draft.puts('|', 0);
                }
            }
            return false;
        }

        private boolean readsTest(Tape text, int open) {
            int sign = text.sign();
            if (sign == '!' || sign == '(') {
                if (open >= MOST_OPEN) {
                    return text.fails(TOO_DEEP);
                }
                text.at++;
                if (sign == '(') {
                    return readsCondition(text, open + 1) && text.needs(')');
                }
                if (!readsTest(text, open + 1)) {
                    return false;
                }
                draft.puts('!', 0);
                return true;
            }
            if (!readsValue(text, open)) {
                return false;
            }
            int than = text.sign();
            if (than != '<' && than != '>' && than != '=') {
                return text.fails(CANNOT_STAND);
            }
            text.at++;
            if (!readsValue(text, open)) {
                return false;
            }
            draft.puts(than, 0);
            return true;
        }

        /** E: a TERM's signs join at once, a + or - waits till the TERM behind it has ended. */
        private boolean readsValue(Tape text, int open) {
            int waiting = NONE;
            int times = NONE;
            for (int i = 0; i < LAW_BYTES; i++) {
                if (!readsFactor(text, open)) {
                    return false;
                }
                draft.joins(times);
                times = NONE;
                int sign = text.sign();
                if (sign == '*' || sign == '/' || sign == '%') {
                    times = sign;
                } else {
                    draft.joins(waiting);
                    if (sign != '+' && sign != '-') {
                        return true;
                    }
                    waiting = sign;
                }
                text.at++;
            }
            return false;
        }

        private boolean readsFactor(Tape text, int open) {
            int sign = text.sign();
            if (sign == '[') {
                if (open >= MOST_OPEN) {
                    return text.fails(TOO_DEEP);
                }
                text.at++;
                return readsValue(text, open + 1) && text.needs(']');
            }
            int fact = Week.factOf(sign);
            if (fact != NONE) {
                text.at++;
                draft.puts(Law.FACT, fact);
                return true;
            }
            int number = text.number(DIGITS);
            if (number == NONE) {
                return false;
            }
            draft.puts(Law.NUMBER, number);
            return true;
        }
    }

    /** Lets WEEKS go by. */
    private static final class Week {
        static final int HE = 0;
        static final int OTHER = 1;
        static final int HIS_SECRETS = 2;
        static final int OTHERS_SECRETS = 3;
        static final int UNKNOWN_TO_OTHER = 4;
        static final int HIS_BREATH = 5;
        static final int OTHER_READS = 6;
        static final int THE_WEEK = 7;
        static final int PRINTED = 8;
        static final int FACTS = 9;
        /** Seven values in one another keep two waiting each, a comparison one more: 16 is the most. */
        static final int STACK = 24;

        final int[] facts = new int[FACTS];
        final int[] stack = new int[STACK];
        int misprints;

        static int factOf(int letter) {
            switch (letter) {
                case 'p':
                    return HE;
                case 'k':
                    return OTHER;
                case 'n':
                    return HIS_SECRETS;
                case 'o':
                    return OTHERS_SECRETS;
                case 'u':
                    return UNKNOWN_TO_OTHER;
                case 'b':
                    return HIS_BREATH;
                case 'd':
                    return OTHER_READS;
                case 'w':
                    return THE_WEEK;
                case 'c':
                    return PRINTED;
                default:
                    return NONE;
            }
        }

        /** Up to n WEEKS: how many WHISPERS are printed in them. */
        int goesByTimes(int n, State state, Law law) {
            misprints = 0;
            int sum = 0;
            for (int i = 0; i < n; i++) {
                int printed = goesBy(state, law);
                if (printed == NONE) {
                    break;
                }
                sum += printed;
            }
            return sum;
        }

        /** How many WHISPERS are printed; NONE if THE WEEK was the last one. */
        int goesBy(State state, Law law) {
            if (state.week >= LAST_WEEK) {
                return NONE;
            }
            int slot = state.slotOf(0);
            state.printed[slot] = 0;
            for (int p = 0; p < PEOPLE; p++) {
                if (state.isTold(p)) {
                    hasHisTurn(state, law, p, slot);
                }
            }
            isRead(state, law, slot);
            state.week++;
            return state.printed[slot];
        }

        private void hasHisTurn(State state, Law law, int p, int slot) {
            looksAt(state, p, state.printed[slot]);
            int other = choice(state, law, p);
            if (other == NONE) {
                return;
            }
            looksAtOther(state, p, other);
            int misprintedBelow = asked(law, 'm', 10);
            if (state.draw() >= asked(law, 'h', 10)) {
                return;
            }
            int secret = Integer.numberOfTrailingZeros(state.secrets[p] & ~state.secrets[other]);
            state.secrets[other] |= 1 << secret;
            state.breath[p] = Math.min(state.breath[p] + 1, MOST_BREATH);
            int to = other;
            if (state.draw() < misprintedBelow) {
                to = nextTold(state, p, other);
                misprints++;
            }
            state.prints(slot, packedWhisper(p, to, secret));
        }

        private int choice(State state, Law law, int p) {
            int best = NONE;
            int most = 0;
            for (int k = 0; k < PEOPLE; k++) {
                if (k != p && state.isTold(k) && (state.secrets[p] & ~state.secrets[k]) != 0) {
                    looksAtOther(state, p, k);
                    int much = asked(law, 'e', 9999);
                    if (much > most) {
                        most = much;
                        best = k;
                    }
                }
            }
            return best;
        }

        private static int nextTold(State state, int p, int other) {
            for (int step = 1; step < PEOPLE; step++) {
                int q = (other + step) % PEOPLE;
                if (q != p && state.isTold(q)) {
                    return q;
                }
            }
            return other;
        }

        private void isRead(State state, Law law, int slot) {
            int secrets = state.secretsIn(slot);
            boolean isFree = !law.hasKind('r');
            for (int p = 0; p < PEOPLE; p++) {
                if (state.isTold(p) && state.isReader(p)) {
                    looksAt(state, p, state.printed[slot]);
                    if (isFree || holdsAny(law)) {
                        state.secrets[p] |= secrets;
                    }
                }
            }
        }

        private void looksAt(State state, int p, int printed) {
            facts[HE] = p;
            facts[HIS_SECRETS] = Integer.bitCount(state.secrets[p]);
            facts[HIS_BREATH] = state.breath[p];
            facts[THE_WEEK] = state.week % 100;
            facts[PRINTED] = printed;
            facts[OTHER] = 0;
            facts[OTHERS_SECRETS] = 0;
            facts[UNKNOWN_TO_OTHER] = 0;
            facts[OTHER_READS] = 0;
        }

        private void looksAtOther(State state, int p, int k) {
            facts[OTHER] = k;
            facts[OTHERS_SECRETS] = Integer.bitCount(state.secrets[k]);
            facts[UNKNOWN_TO_OTHER] = Integer.bitCount(state.secrets[p] & ~state.secrets[k]);
            facts[OTHER_READS] = hasBit(state.readers, k) ? 1 : 0;
        }

        /** What the first RULE of a kind says whose C holds, between 0 and most. */
        private int asked(Law law, int kind, int most) {
            for (int rule = 0; rule < law.rules; rule++) {
                if (law.kinds[rule] == kind && reckoned(law, law.testFrom[rule], law.testTo[rule]) != 0) {
                    int value = reckoned(law, law.valueFrom[rule], law.testFrom[rule]);
                    return Math.max(0, Math.min(value, most));
                }
            }
            return 0;
        }

        private boolean holdsAny(Law law) {
            for (int rule = 0; rule < law.rules; rule++) {
                if (law.kinds[rule] == 'r' && reckoned(law, law.testFrom[rule], law.testTo[rule]) != 0) {
                    return true;
                }
            }
            return false;
        }

        /** What a piece of THE LAW comes to (of a C: not 0 if it holds); 0 if something is divided by 0. */
        private int reckoned(Law law, int from, int to) {
            int top = NONE;
            int resume = from;
            for (int i = from; i < to; i++) {
                if (i < resume) {
                    continue;
                }
                int code = law.codes[i];
                int arg = law.args[i];
                if (code == Law.NUMBER || code == Law.FACT) {
                    if (top + 1 >= STACK) {
                        return 0;
                    }
                    top++;
                    stack[top] = code == Law.NUMBER ? arg : facts[arg];
                } else if (top < 0) {
                    return 0;
                } else if (code == '!') {
                    stack[top] = stack[top] == 0 ? 1 : 0;
                } else if (code == '&' || code == '|') {
                    if ((stack[top] != 0) == (code == '|')) {
                        resume = arg;
                    } else {
                        top--;
                    }
                } else {
                    if (top < 1 || (code == '/' || code == '%') && stack[top] == 0) {
                        return 0;
                    }
                    top--;
                    stack[top] = joined(code, stack[top], stack[top + 1]);
                }
            }
            return top < 0 ? 0 : stack[top];
        }

        private static int joined(int sign, int left, int right) {
            switch (sign) {
                case '+':
                    return left + right;
                case '-':
                    return left - right;
                case '*':
                    return left * right;
                case '/':
                    return right == 0 ? 0 : left / right;
                case '%':
                    return right == 0 ? 0 : left % right;
                case '<':
                    return left < right ? 1 : 0;
                case '>':
                    return left > right ? 1 : 0;
                default:
                    return left == right ? 1 : 0;
            }
        }
    }

    /** GOSSIP: its LINES are read first and done then, so that nothing is done of one with a FAULT. */
    private static final class GossipSheet {
        static final int MOST_LINES = 20;
        static final int DIGITS = 4;

        final int[] who = new int[MOST_LINES];
        final int[] verbs = new int[MOST_LINES];
        final int[] objects = new int[MOST_LINES];
        int lines;

        boolean reads(Tape text, int told) {
            lines = 0;
            for (int line = 0; line <= MOST_LINES; line++) {
                if (!readsWho(text, told) || !readsWhat(text, told)) {
                    return false;
                }
                lines++;
                if (text.isOver()) {
                    return true;
                }
                if (!text.needs(';')) {
                    return false;
                }
            }
            return false;
        }

        private boolean readsWho(Tape text, int told) {
            int p = text.sign() - 'a';
            if (!isPerson(p)) {
                return text.fails(CANNOT_STAND);
            }
            if (lines >= MOST_LINES) {
                return text.fails(TOO_MANY);
            }
            if (!hasBit(told, p)) {
                return text.fails(NOT_TOLD);
            }
            text.at++;
            who[lines] = p;
            return true;
        }

        private boolean readsWhat(Tape text, int told) {
            int verb = text.sign();
            verbs[lines] = verb;
            switch (verb) {
                case '!':
                case '?':
                    text.at++;
                    return true;
                case '+':
                case '-':
                    text.at++;
                    return readsSecret(text);
                case '>':
                    text.at++;
                    return readsOther(text, told);
                case '=':
                    text.at++;
                    objects[lines] = text.number(DIGITS);
                    return objects[lines] != NONE;
                default:
                    return text.fails(CANNOT_STAND);
            }
        }

        private boolean readsSecret(Tape text) {
            int secret = text.sign() - 'A';
            if (!isSecret(secret)) {
                return text.fails(CANNOT_STAND);
            }
            text.at++;
            objects[lines] = secret;
            return true;
        }

        private boolean readsOther(Tape text, int told) {
            int other = text.sign() - 'a';
            if (!isPerson(other)) {
                return text.fails(CANNOT_STAND);
            }
            if (other == who[lines]) {
                return text.fails(HIMSELF);
            }
            if (!hasBit(told, other)) {
                return text.fails(NOT_TOLD);
            }
            text.at++;
            objects[lines] = other;
            return true;
        }

        void isDoneTo(State state) {
            for (int line = 0; line < lines; line++) {
                int p = who[line];
                int object = objects[line];
                switch (verbs[line]) {
                    case '+':
                        state.secrets[p] |= 1 << object;
                        break;
                    case '-':
                        state.secrets[p] &= ~(1 << object);
                        break;
                    case '>':
                        state.secrets[object] |= state.secrets[p];
                        break;
                    case '=':
                        state.breath[p] = object;
                        break;
                    default:
                        state.reads(p, verbs[line] == '!');
                        break;
                }
            }
        }
    }

    /** COPY: how long its WORDS are, and which types they use. */
    private static final class CopySheet {
        static final int MOST_WORDS = 60;
        static final int LONGEST = 12;
        static final int LETTERS = 26;

        final int[] lengths = new int[MOST_WORDS];
        final int[] uses = new int[LETTERS];
        int words;

        boolean reads(Tape text) {
            words = 0;
            for (int letter = 0; letter < LETTERS; letter++) {
                uses[letter] = 0;
            }
            for (int i = 0; i <= MOST_WORDS; i++) {
                if (!readsWord(text)) {
                    return false;
                }
                if (text.isOver()) {
                    return true;
                }
                if (!text.needs('_')) {
                    return false;
                }
            }
            return false;
        }

        private boolean readsWord(Tape text) {
            int first = text.at;
            int times = text.sign() - '0';
            if (isWithin(times, 2, 9)) {
                text.at++;
            } else {
                times = 1;
            }
            int length = readsLetters(text, times);
            if (length == NONE) {
                return false;
            }
            if (words + times > MOST_WORDS) {
                return text.failsAt(TOO_MANY, first);
            }
            for (int i = 0; i < times; i++) {
                lengths[words] = length;
                words++;
            }
            return true;
        }

        /** How many letters the WORD has; NONE if it has a FAULT. */
        private int readsLetters(Tape text, int times) {
            for (int length = 0; length <= LONGEST; length++) {
                int letter = text.sign() - 'a';
                if (!isLetter(letter)) {
                    if (length > 0) {
                        return length;
                    }
                    text.fails(CANNOT_STAND);
                    return NONE;
                }
                if (length == LONGEST) {
                    text.fails(TOO_LONG);
                    return NONE;
                }
                uses[letter] += times;
                text.at++;
            }
            return NONE;
        }

        int allLetters() {
            return lackingTypes(0);
        }

        int longestWord() {
            int longest = 0;
            for (int i = 0; i < words; i++) {
                longest = Math.max(longest, lengths[i]);
            }
            return longest;
        }

        int unlikeLetters() {
            int unlike = 0;
            for (int letter = 0; letter < LETTERS; letter++) {
                if (uses[letter] > 0) {
                    unlike++;
                }
            }
            return unlike;
        }

        int lackingTypes(int each) {
            int sum = 0;
            for (int letter = 0; letter < LETTERS; letter++) {
                sum += Math.max(0, uses[letter] - each);
            }
            return sum;
        }
    }

    /** SET: for what begins with each WORD, the best way to set it. */
    private static final class Setting {
        final int[] squares = new int[CopySheet.MOST_WORDS + 1];
        final int[] lines = new int[CopySheet.MOST_WORDS + 1];
        final int[] nextLine = new int[CopySheet.MOST_WORDS + 1];

        void sets(CopySheet sheet, int wide) {
            squares[sheet.words] = 0;
            lines[sheet.words] = 0;
            nextLine[sheet.words] = sheet.words;
            for (int first = sheet.words - 1; first >= 0; first--) {
                setsFrom(sheet, wide, first);
            }
        }

        /** Of like lines the longer one is taken, since it comes later. */
        private void setsFrom(CopySheet sheet, int wide, int first) {
            int width = -1;
            for (int next = first + 1; next <= sheet.words; next++) {
                width += 1 + sheet.lengths[next - 1];
                if (width > wide) {
                    return;
                }
                int free = next == sheet.words ? 0 : wide - width;
                int sum = free * free + squares[next];
                int many = 1 + lines[next];
                boolean isFirst = next == first + 1;
                if (isFirst || sum < squares[first] || sum == squares[first] && many <= lines[first]) {
                    squares[first] = sum;
                    lines[first] = many;
                    nextLine[first] = next;
                }
            }
        }

        int lineWith(int word) {
            int first = 0;
            for (int line = 0; line < lines[0]; line++) {
                first = nextLine[first];
                if (word < first) {
                    return line;
                }
            }
            return NONE;
        }
    }

    /** The fewest of some sets of SECRETS that have all that is wanted; of like ones the least bits. */
    private static final class Cover {
        static final int MOST_SETS = 20;

        final int[] sets = new int[MOST_SETS];
        /** What the sets up to each have together, and how much the largest of them. */
        final int[] together = new int[MOST_SETS];
        final int[] largest = new int[MOST_SETS];
        int chosen;

        boolean finds(int many, int wanted) {
            chosen = 0;
            int sum = 0;
            int most = 0;
            for (int i = 0; i < many; i++) {
                sum |= sets[i];
                most = Math.max(most, Integer.bitCount(sets[i] & wanted));
                together[i] = sum;
                largest[i] = most;
            }
            for (int left = 0; left <= SECRETS; left++) {
                if (isCovered(many - 1, wanted, left)) {
                    return true;
                }
            }
            return false;
        }

        /** Whether so many of the sets up to i have what is missing: first without i, so that bits are least. */
        private boolean isCovered(int i, int missing, int left) {
            if (missing == 0) {
                return true;
            }
            if (i < 0 || (missing & ~together[i]) != 0 || Integer.bitCount(missing) > left * largest[i]) {
                return false;
            }
            if (isCovered(i - 1, missing, left)) {
                return true;
            }
            if ((missing & sets[i]) != 0 && isCovered(i - 1, missing & ~sets[i], left - 1)) {
                chosen |= 1 << i;
                return true;
            }
            return false;
        }
    }

    /** How often all BACK NUMBERS print each two: from whom, to whom. */
    private static final class Archive {
        final int[] pairs = new int[PEOPLE * PEOPLE];

        void tallies(State state) {
            for (int pair = 0; pair < PEOPLE * PEOPLE; pair++) {
                pairs[pair] = 0;
            }
            for (int slot = 0; slot < state.issues(); slot++) {
                for (int j = 0; j < state.printed[slot]; j++) {
                    int whisper = state.whisperOf(slot, j);
                    pairs[fromOf(whisper) * PEOPLE + toOf(whisper)]++;
                }
            }
        }

        int mostOftenPair() {
            int best = 0;
            for (int pair = 1; pair < PEOPLE * PEOPLE; pair++) {
                if (pairs[pair] > pairs[best]) {
                    best = pair;
                }
            }
            return best;
        }

        int timesTo(int to) {
            int times = 0;
            for (int from = 0; from < PEOPLE; from++) {
                times += pairs[from * PEOPLE + to];
            }
            return times;
        }

        int mostWhisperedTo() {
            int best = 0;
            for (int to = 1; to < PEOPLE; to++) {
                if (timesTo(to) > timesTo(best)) {
                    best = to;
                }
            }
            return best;
        }

        private int whisperedToBy(int from) {
            int bits = 0;
            for (int to = 0; to < PEOPLE; to++) {
                if (pairs[from * PEOPLE + to] > 0) {
                    bits |= 1 << to;
                }
            }
            return bits;
        }

        /** Each round goes on at least one whisper further, so PEOPLE rounds reach all. */
        int reachedFrom(int p) {
            int reached = whisperedToBy(p);
            for (int round = 1; round < PEOPLE; round++) {
                int further = reached;
                for (int q = 0; q < PEOPLE; q++) {
                    if (hasBit(reached, q)) {
                        further |= whisperedToBy(q);
                    }
                }
                if (further == reached) {
                    break;
                }
                reached = further;
            }
            return reached;
        }
    }

    /** What is reckoned from the tape alone. */
    private static final class Desk {
        static final int NAME = 12;
        static final int HIGHEST_NOTICE = 60;
        static final int KINDS_OF_WORDS = 4;
        static final int MOST_DAYS = 15;

        final int[] loads = new int[3];
        int leastTime;
        final int[] days = new int[PEOPLE];
        final int[] apart = new int[(NAME + 1) * (NAME + 1)];

        int timeOfNuns(Tape work, int pages, int many) {
            for (int nun = 0; nun < loads.length; nun++) {
                loads[nun] = 0;
            }
            leastTime = pages * BYTE + 1;
            shares(work, 0, pages, many, 0);
            return leastTime;
        }

        private void shares(Tape work, int page, int pages, int many, int time) {
            if (time >= leastTime) {
                return;
            }
            if (page >= pages) {
                leastTime = time;
                return;
            }
            int much = work.byteAt(page);
            for (int nun = 0; nun < many; nun++) {
                loads[nun] += much;
                shares(work, page + 1, pages, many, Math.max(time, loads[nun]));
                loads[nun] -= much;
            }
        }

        /** Bits; NOT_FIT: a notice that can't be. */
        static int noticesThatPayMost(Tape notices, int n, int high) {
            for (int i = 0; i < n; i++) {
                if (!isWithin(notices.byteAt(2 * i), 1, HIGHEST_NOTICE)) {
                    return NOT_FIT;
                }
            }
            int best = 0;
            int most = 0;
            for (int bits = 1; bits < 1 << n; bits++) {
                int paid = paidFor(notices, n, bits);
                if (paid > most && added(notices, n, bits, 0) <= high) {
                    most = paid;
                    best = bits;
                }
            }
            return best;
        }

        static int paidFor(Tape notices, int n, int bits) {
            return added(notices, n, bits, 1);
        }

        private static int added(Tape notices, int n, int bits, int offset) {
            int sum = 0;
            for (int i = 0; i < n; i++) {
                if (hasBit(bits, i)) {
                    sum += notices.byteAt(2 * i + offset);
                }
            }
            return sum;
        }

        static int nearestWriter(Tape words, int n) {
            int nearest = 0;
            for (int writer = 1; writer < n; writer++) {
                if (differenceOf(words, n, writer) < differenceOf(words, n, nearest)) {
                    nearest = writer;
                }
            }
            return nearest;
        }

        /** The text stands behind the n writers. */
        static int differenceOf(Tape words, int n, int writer) {
            int sum = 0;
            for (int kind = 0; kind < KINDS_OF_WORDS; kind++) {
                int his = words.byteAt(KINDS_OF_WORDS * writer + kind);
                sum += Math.abs(his - words.byteAt(KINDS_OF_WORDS * n + kind));
            }
            return sum;
        }

        /** Row i, column j of apart: how far the first i letters of the one are from the first j of the other. */
        int lettersApart(Tape names, int n, int m) {
            int row = NAME + 1;
            for (int i = 0; i <= n; i++) {
                for (int j = 0; j <= m; j++) {
                    apart[i * row + j] = i == 0 || j == 0 ? i + j : lettersApartAt(names, n, i, j);
                }
            }
            return apart[n * row + m];
        }

        private int lettersApartAt(Tape names, int n, int i, int j) {
            int row = NAME + 1;
            int here = i * row + j;
            int one = names.byteAt(i - 1);
            int other = names.byteAt(n + j - 1);
            int least = apart[here - row - 1] + (one == other ? 0 : 1);
            least = Math.min(least, 1 + Math.min(apart[here - row], apart[here - 1]));
            boolean isExchanged = i > 1 && j > 1
                    && one == names.byteAt(n + j - 2) && names.byteAt(i - 2) == other;
            return isExchanged ? Math.min(least, 1 + apart[here - 2 * row - 2]) : least;
        }

        static int dutyOn(Tape bounds, int n, int breath) {
            int from = 0;
            int sum = 0;
            for (int i = 0; i < n; i++) {
                int bound = 10 * bounds.byteAt(2 * i);
                if (bound <= from) {
                    return NOT_FIT;
                }
                sum += Math.max(0, Math.min(breath, bound) - from) * bounds.byteAt(2 * i + 1);
                from = bound;
            }
            return sum;
        }

        /** Who has the paper last; NOT_THERE: one who can't get it so. */
        int lastToGetIt(Tape ways, int n) {
            days[0] = 0;
            int last = 0;
            for (int p = 1; p < n; p++) {
                int from = ways.byteAt(2 * p);
                int later = ways.byteAt(2 * p + 1);
                if (!isWithin(from, 0, p - 1) || !isWithin(later, 0, MOST_DAYS)) {
                    return NOT_THERE;
                }
                days[p] = days[from] + later;
                if (days[p] > days[last]) {
                    last = p;
                }
            }
            return last;
        }
    }
}
