/** A dictionary that may use each word but so often, in all its entries, to explain the others. */
public final class NoWordTwice {
    public static final int NONE = -1;

    private static final int MOST_WORDS = 16;
    private static final int MOST_MARKS = 1023;
    private static final int MOST_ENTRIES = 12;
    private static final int ROW = 3;
    private static final int MOST_LIMIT = 3;
    private static final int MOST_CHANGE = 1000;
    private static final int MOST_EDITION = 9999;
    private static final int MOST_EDITIONS_AT_ONCE = 50;
    private static final int BOOK_LINES = 80;
    private static final int BOOK_ROW = 4;
    private static final int TAPE_LENGTH = 400;
    private static final int FED_BYTES = 20;
    private static final int MOST_DIGITS = 4;
    private static final int MOST_LINES = 16;
    private static final int MOST_OPEN = 8;
    private static final int KEPT_EDITIONS = 6;
    private static final int PACKED_WORDS = 7;

    private static final int CANNOT_STAND = 1;
    private static final int PART_BY_ZERO = 2;
    private static final int TOO_MUCH = 3;

    private static final int END = 0;
    private static final int BAD = 1;
    private static final int NUMBER = 2;
    private static final int FIX = 3;
    private static final int LOOSE = 4;
    private static final int WHEN = 5;
    private static final int OR = 6;
    private static final int AND = 7;
    private static final int NOT = 8;
    private static final int COMMON = 9;
    private static final int LACK = 10;
    private static final int MORE = 11;
    private static final int MANY = 12;
    private static final int OTHERS = 13;
    private static final int HEAD = 14;
    private static final int SEMICOLON = 15;
    private static final int PLUS = 16;
    private static final int MINUS = 17;
    private static final int TIMES = 18;
    private static final int PART = 19;
    private static final int OPEN = 20;
    private static final int CLOSE = 21;
    private static final int BELOW = 22;
    private static final int SAME = 23;
    private static final int ABOVE = 24;

    // In the code of a law every number stands below this, so what is at or above it is a token's kind.
    private static final int FIRST_SIGN = 10000;
    // Eight open brackets with "or" and "and" waiting in each, and one comparison, need 22.
    private static final int STACK = 32;

    private final Told now;
    private final Told imageHeld;
    private boolean imageTaken;
    private final byte[] tape;
    private int tapeLength;
    private final LawReader reader;
    private final Past past;
    private final Judgement judgement;
    private final Thought thought;
    private final Trades trades;
    private final Packing packing;

    public NoWordTwice() {
        now = new Told();
        imageHeld = new Told();
        imageTaken = false;
        tape = new byte[TAPE_LENGTH];
        tapeLength = 0;
        reader = new LawReader();
        past = new Past();
        judgement = new Judgement();
        thought = new Thought();
        trades = new Trades();
        packing = new Packing();
    }

    public int state(int v) {
        int was = now.state;
        now.state = v;
        past.forget();
        return was;
    }

    public int word(int marks) {
        if (now.words >= MOST_WORDS || !canBeMarks(marks)) {
            return NONE;
        }
        int added = now.words;
        now.marks[added] = marks;
        now.words = added + 1;
        past.forget();
        return added;
    }

    public boolean set(int what, int word, int v) {
        boolean told;
        switch (what) {
            case 0: told = setLimit(v); break;
            case 1: told = setChange(v); break;
            case 2: told = setKnown(word, v); break;
            case 3: told = setMarks(word, v); break;
            default: told = false; break;
        }
        if (told) {
            past.forget();
        }
        return told;
    }

    public int entry(int head, int a, int b, int c) {
        if (now.entries >= MOST_ENTRIES || !now.canBeEntry(head, a, b, c)) {
            return NONE;
        }
        int added = now.addEntry(head, a, b, c);
        past.forget();
        return added;
    }

    public boolean drop(int entry) {
        if (!now.hasEntry(entry)) {
            return false;
        }
        now.moveEntry(entry, now.entries - 1);
        now.entries--;
        past.forget();
        return true;
    }

    public boolean move(int entry, int to) {
        if (!now.hasEntry(entry) || !now.hasEntry(to)) {
            return false;
        }
        now.moveEntry(entry, to);
        past.forget();
        return true;
    }

    public int feed(int a, int b, int c, int d, int e) {
        if (tapeLength + FED_BYTES > TAPE_LENGTH) {
            return NONE;
        }
        putBytes(a);
        putBytes(b);
        putBytes(c);
        putBytes(d);
        putBytes(e);
        return tapeLength;
    }

    public boolean end(int n) {
        if (n < 0 || n > tapeLength) {
            return false;
        }
        tapeLength = n;
        return true;
    }

    public int text() {
        reader.begin(tape, tapeLength);
        tapeLength = 0;
        boolean good = true;
        // One line more than may be is tried, so that the one too many is met.
        for (int line = 0; line <= MOST_LINES && good && reader.goesOn(); line++) {
            good = reader.readLine();
        }
        if (!good) {
            return NONE;
        }
        now.law.copyFrom(reader.law);
        return now.law.lines;
    }

    public int fault(int what) {
        switch (what) {
            case 0: return reader.fault;
            case 1: return reader.faultPlace;
            default: return NONE;
        }
    }

    public int editions(int n) {
        if (n < 1 || n > MOST_EDITIONS_AT_ONCE || now.edition + n > MOST_EDITION) {
            return NONE;
        }
        int changed = 0;
        for (int i = 0; i < n; i++) {
            past.keep(now);
            changed += now.bringOutEdition();
        }
        return changed;
    }

    public int of(int word, int what) {
        if (!now.hasWord(word)) {
            return NONE - 1;
        }
        switch (what) {
            case 0: return now.marks[word];
            case 1: return now.known >> word & 1;
            case 2: return now.usesAhead(word, now.entries);
            case 3: return now.firstUse(word);
            case 4: return now.alike(word);
            default: return NONE - 1;
        }
    }

    public int at(int entry, int what) {
        if (!now.hasEntry(entry)) {
            return NONE;
        }
        switch (what) {
            case 0: return now.heads[entry];
            case 1: return now.counts[entry];
            case 2: return now.isFixed(entry) ? 1 : 0;
            default: return what >= 10 ? now.usedWord(entry, what - 10) : NONE;
        }
    }

    public int fixes(int head, int set) {
        if (!now.hasWord(head) || !now.hasSet(set) || set == 0 || (set >> head & 1) != 0) {
            return NONE;
        }
        return now.fixedBy(head, set) ? 1 : 0;
    }

    public int judge(int what) {
        judgement.passOn(now);
        switch (what) {
            case 0: return judgement.which;
            case 1: return judgement.entry;
            case 2: return judgement.word;
            default: return NONE;
        }
    }

    public int learnt(int set, int what) {
        if (!now.hasSet(set) || what < 0 || what > 1) {
            return NONE;
        }
        thought.takeFixedEntries(now);
        thought.learnFrom(set);
        return what == 0 ? thought.learntSet : thought.rounds;
    }

    public int order(int i) {
        thought.orderEntries(now);
        return i >= 0 && i < thought.ordered ? thought.row[i] : NONE;
    }

    public int ring() {
        thought.orderEntries(now);
        return thought.left;
    }

    public int cut() {
        thought.takeEntries(now);
        return thought.fewest(now.known, thought.allNeeds());
    }

    public int least() {
        thought.takeFixedEntries(now);
        return thought.fewest(0, now.allHeads());
    }

    public int most(int m, int what) {
        boolean asked = what == 0 || what >= 10 && now.hasWord(what - 10);
        if (m < 1 || m > MOST_LIMIT || now.words > PACKED_WORDS || !asked) {
            return NONE;
        }
        packing.pack(now, m);
        return what == 0 ? packing.told : packing.chosen[what - 10];
    }

    public int worn(int entry, int i) {
        if (!now.hasEntry(entry) || i < 0 || i >= now.counts[entry]) {
            return NONE;
        }
        return now.readable(entry, i);
    }

    public int trade(int what) {
        if (what < 0 || what > 4) {
            return NONE;
        }
        trades.seek(now);
        return what == 0 ? trades.count : trades.first[what - 1];
    }

    public int book(int i, int what) {
        if (i < 0 || i >= now.bookLines || what < 0 || what >= BOOK_ROW) {
            return NONE;
        }
        return now.book[i * BOOK_ROW + what];
    }

    public boolean undo() {
        if (past.kept == 0) {
            return false;
        }
        past.bringBack(now);
        return true;
    }

    public boolean image(boolean taken) {
        if (taken) {
            imageHeld.copyFrom(now);
            imageTaken = true;
            return true;
        }
        if (!imageTaken) {
            return false;
        }
        now.copyFrom(imageHeld);
        past.forget();
        return true;
    }

    public int look(int what) {
        switch (what) {
            case 0: return now.words;
            case 1: return now.entries;
            case 2: return now.limit;
            case 3: return now.change;
            case 4: return now.edition;
            case 5: return now.bookLines;
            case 6: return now.state;
            case 7: return now.law.lines;
            case 8: return past.kept;
            default: return NONE;
        }
    }

    private static boolean canBeMarks(int marks) {
        return marks >= 1 && marks <= MOST_MARKS;
    }

    private boolean setLimit(int v) {
        if (v < 1 || v > MOST_LIMIT) {
            return false;
        }
        now.limit = v;
        return true;
    }

    private boolean setChange(int v) {
        if (v < 0 || v > MOST_CHANGE) {
            return false;
        }
        now.change = v;
        return true;
    }

    private boolean setKnown(int word, int v) {
        if (!now.hasWord(word) || v < 0 || v > 1) {
            return false;
        }
        now.known = now.known & ~(1 << word) | v << word;
        return true;
    }

    private boolean setMarks(int word, int v) {
        if (!now.hasWord(word) || !canBeMarks(v)) {
            return false;
        }
        now.marks[word] = v;
        return true;
    }

    private void putBytes(int four) {
        for (int shift = 24; shift >= 0 && tapeLength < tape.length; shift -= 8) {
            tape[tapeLength] = (byte) (four >> shift);
            tapeLength++;
        }
    }

    /** All that THE IMAGE holds: what was told and what the editions made of it. */
    private static final class Told {
        private int state;
        private int limit;
        private int change;
        private int edition;
        private int words;
        private final int[] marks;
        private int known;
        private int entries;
        private final int[] heads;
        private final int[] counts;
        private final int[] used;
        private int bookLines;
        private final int[] book;
        private final Law law;

        Told() {
            limit = 1;
            marks = new int[MOST_WORDS];
            heads = new int[MOST_ENTRIES];
            counts = new int[MOST_ENTRIES];
            used = new int[MOST_ENTRIES * ROW];
            book = new int[BOOK_LINES * BOOK_ROW];
            law = new Law();
        }

        void copyFrom(Told from) {
            state = from.state;
            limit = from.limit;
            change = from.change;
            edition = from.edition;
            words = from.words;
            System.arraycopy(from.marks, 0, marks, 0, marks.length);
            known = from.known;
            entries = from.entries;
            System.arraycopy(from.heads, 0, heads, 0, heads.length);
            System.arraycopy(from.counts, 0, counts, 0, counts.length);
            System.arraycopy(from.used, 0, used, 0, used.length);
            bookLines = from.bookLines;
            System.arraycopy(from.book, 0, book, 0, book.length);
            law.copyFrom(from.law);
        }

        boolean hasWord(int word) {
            return word >= 0 && word < words;
        }

        boolean hasEntry(int entry) {
            return entry >= 0 && entry < entries;
        }

        boolean hasSet(int set) {
            return set >>> words == 0;
        }

        boolean canBeEntry(int head, int a, int b, int c) {
            if (!hasWord(head) || !hasWord(a) || a == head) {
                return false;
            }
            if (b == NONE) {
                return c == NONE;
            }
            if (!hasWord(b) || b == head || b == a) {
                return false;
            }
            return c == NONE || hasWord(c) && c != head && c != a && c != b;
        }

        int addEntry(int head, int a, int b, int c) {
            int added = entries;
            heads[added] = head;
            counts[added] = b == NONE ? 1 : c == NONE ? 2 : 3;
            used[added * ROW] = a;
            used[added * ROW + 1] = b;
            used[added * ROW + 2] = c;
            entries = added + 1;
            return added;
        }

        void moveEntry(int from, int to) {
            for (int e = from; e < to; e++) {
                swapEntries(e, e + 1);
            }
            for (int e = from; e > to; e--) {
                swapEntries(e, e - 1);
            }
        }

        private void swapEntries(int e, int f) {
            swapNumbers(heads, e, f);
            swapNumbers(counts, e, f);
            for (int i = 0; i < ROW; i++) {
                swapNumbers(used, e * ROW + i, f * ROW + i);
            }
        }

        private static void swapNumbers(int[] numbers, int i, int j) {
            int kept = numbers[i];
            numbers[i] = numbers[j];
            numbers[j] = kept;
        }

        int usedWord(int entry, int i) {
            return i >= 0 && i < counts[entry] ? used[entry * ROW + i] : NONE;
        }

        int usedSet(int entry) {
            int set = 0;
            for (int i = 0; i < counts[entry]; i++) {
                set |= 1 << used[entry * ROW + i];
            }
            return set;
        }

        boolean uses(int entry, int word) {
            return (usedSet(entry) >> word & 1) != 0;
        }

        int usesAhead(int word, int entry) {
            int uses = 0;
            for (int e = 0; e < entry; e++) {
                if (uses(e, word)) {
                    uses++;
                }
            }
            return uses;
        }

        int firstUse(int word) {
            for (int e = 0; e < entries; e++) {
                if (uses(e, word)) {
                    return e;
                }
            }
            return NONE;
        }

        int alike(int word) {
            int set = 0;
            for (int w = 0; w < words; w++) {
                if (w != word && marks[w] == marks[word]) {
                    set |= 1 << w;
                }
            }
            return set;
        }

        int allHeads() {
            int set = 0;
            for (int e = 0; e < entries; e++) {
                set |= 1 << heads[e];
            }
            return set;
        }

        boolean isFixed(int entry) {
            return fixedBy(heads[entry], usedSet(entry));
        }

        boolean fixedBy(int head, int set) {
            int all = 0;
            for (int w = 0; w < words; w++) {
                if ((set >> w & 1) != 0) {
                    all |= marks[w];
                }
            }
            law.give(COMMON, Integer.bitCount(marks[head] & all));
            law.give(LACK, Integer.bitCount(marks[head] & ~all));
            law.give(MORE, Integer.bitCount(all & ~marks[head]));
            law.give(MANY, Integer.bitCount(set));
            law.give(OTHERS, otherWordsWithin(all, set | 1 << head));
            law.give(HEAD, head);
            return law.saysFix();
        }

        private int otherWordsWithin(int all, int leftOut) {
            int others = 0;
            for (int w = 0; w < words; w++) {
                if ((leftOut >> w & 1) == 0 && (marks[w] & ~all) == 0) {
                    others++;
                }
            }
            return others;
        }

        int readable(int entry, int i) {
            int others = usedSet(entry) & ~(1 << used[entry * ROW + i]);
            int barred = others | 1 << heads[entry];
            int set = 0;
            for (int w = 0; w < words; w++) {
                boolean free = (barred >> w & 1) == 0 && usesElsewhere(w, entry) < limit;
                if (free && fixedBy(heads[entry], others | 1 << w)) {
                    set |= 1 << w;
                }
            }
            return set;
        }

        private int usesElsewhere(int word, int entry) {
            int uses = usesAhead(word, entries);
            return uses(entry, word) ? uses - 1 : uses;
        }

        private int draw(int m) {
            state = state * 1664525 + 1013904223;
            return m > 0 ? (state >>> 8) % m : 0;
        }

        int bringOutEdition() {
            int changed = 0;
            for (int e = 0; e < entries; e++) {
                if (change > 0 && draw(1000) < change && changeWord(e)) {
                    changed++;
                }
            }
            edition++;
            return changed;
        }

        private boolean changeWord(int entry) {
            int place = entry * ROW + draw(counts[entry]);
            int word = draw(words);
            if (word == heads[entry] || uses(entry, word)) {
                return false;
            }
            writeBook(entry, used[place], word);
            used[place] = word;
            return true;
        }

        private void writeBook(int entry, int was, int is) {
            if (bookLines >= BOOK_LINES) {
                return;
            }
            int line = bookLines * BOOK_ROW;
            book[line] = edition;
            book[line + 1] = entry;
            book[line + 2] = was;
            book[line + 3] = is;
            bookLines++;
        }
    }

    /** THE LAW, each line's condition as a row of signs, operands ahead of their operator. */
    private static final class Law {
        private int lines;
        private final int[] fixing;
        private final int[] starts;
        private final int[] code;
        private final int[] values;
        private final int[] stack;

        Law() {
            fixing = new int[MOST_LINES];
            starts = new int[MOST_LINES + 1];
            code = new int[TAPE_LENGTH];
            values = new int[HEAD - COMMON + 1];
            stack = new int[STACK];
        }

        void copyFrom(Law from) {
            lines = from.lines;
            System.arraycopy(from.fixing, 0, fixing, 0, fixing.length);
            System.arraycopy(from.starts, 0, starts, 0, starts.length);
            System.arraycopy(from.code, 0, code, 0, code.length);
        }

        void give(int kind, int value) {
            if (kind >= COMMON && kind <= HEAD) {
                values[kind - COMMON] = value;
            }
        }

        boolean saysFix() {
            for (int line = 0; line < lines; line++) {
                int depth = 0;
                for (int i = starts[line]; i < starts[line + 1]; i++) {
                    depth = work(code[i], depth);
                }
                if (depth == 0 || stack[0] != 0) {
                    return fixing[line] == 1;
                }
            }
            return false;
        }

        /** One sign's work on the stack: how deep it is then. */
        private int work(int sign, int depth) {
            int kind = sign - FIRST_SIGN;
            if (kind < 0 || kind >= COMMON && kind <= HEAD) {
                if (depth >= stack.length) {
                    return depth;
                }
                stack[depth] = kind < 0 ? sign : values[kind - COMMON];
                return depth + 1;
            }
            if (kind == NOT && depth >= 1) {
                stack[depth - 1] = 1 - stack[depth - 1];
                return depth;
            }
            if (depth < 2) {
                return depth;
            }
            int a = stack[depth - 2];
            int b = stack[depth - 1];
            int joined;
            switch (kind) {
                case PLUS: joined = a + b; break;
                case MINUS: joined = a - b; break;
                case TIMES: joined = a * b; break;
                case PART: joined = b == 0 ? 0 : a / b; break;
                case BELOW: joined = a < b ? 1 : 0; break;
                case SAME: joined = a == b ? 1 : 0; break;
                case ABOVE: joined = a > b ? 1 : 0; break;
                case AND: joined = a & b; break;
                default: joined = a | b; break;
            }
            stack[depth - 2] = joined;
            return depth - 1;
        }
    }

    /** A text's tokens, the end being the last of them. */
    private static final class Tokens {
        private final int[] kinds;
        private final int[] places;
        private final int[] numbers;
        private int count;

        Tokens() {
            kinds = new int[TAPE_LENGTH + 1];
            places = new int[TAPE_LENGTH + 1];
            numbers = new int[TAPE_LENGTH + 1];
        }

        void split(byte[] tape, int length) {
            count = 0;
            int from = 0;
            // A token has a sign at least, so there are no more of them than signs.
            for (int i = 0; i < length && from < length; i++) {
                int to = endOfToken(tape, from, length);
                if (!isBlank(tape[from])) {
                    add(kindOf(tape, from, to), from);
                    numbers[count - 1] = isDigit(tape[from]) ? numberIn(tape, from, to) : 0;
                }
                from = to;
            }
            add(END, length);
        }

        private void add(int kind, int place) {
            kinds[count] = kind;
            places[count] = place;
            count++;
        }

        private static int endOfToken(byte[] tape, int from, int length) {
            int to = from + 1;
            if (isLetter(tape[from])) {
                while (to < length && isLetter(tape[to])) {
                    to++;
                }
            } else if (isDigit(tape[from])) {
                while (to < length && isDigit(tape[to])) {
                    to++;
                }
            }
            return to;
        }

        private static int kindOf(byte[] tape, int from, int to) {
            if (isDigit(tape[from])) {
                return to - from <= MOST_DIGITS ? NUMBER : BAD;
            }
            if (!isLetter(tape[from])) {
                return kindOfSign(tape[from]);
            }
            for (int kind = FIX; kind <= HEAD; kind++) {
                if (spells(keyword(kind), tape, from, to)) {
                    return kind;
                }
            }
            return BAD;
        }

        private static int numberIn(byte[] tape, int from, int to) {
            int number = 0;
            for (int i = from; i < to; i++) {
                number = number * 10 + (tape[i] - '0');
            }
            return number;
        }

        private static boolean spells(String keyword, byte[] tape, int from, int to) {
            if (keyword.length() != to - from) {
                return false;
            }
            for (int i = 0; i < keyword.length(); i++) {
                if (keyword.charAt(i) != tape[from + i]) {
                    return false;
                }
            }
            return true;
        }

        private static boolean isBlank(int sign) {
            return sign == 32 || sign == 10;
        }

        private static boolean isLetter(int sign) {
            return sign >= 'a' && sign <= 'z' || sign >= 'A' && sign <= 'Z';
        }

        private static boolean isDigit(int sign) {
            return sign >= '0' && sign <= '9';
        }

        private static String keyword(int kind) {
            switch (kind) {
                case FIX: return "fix";
                case LOOSE: return "loose";
                case WHEN: return "when";
                case OR: return "or";
                case AND: return "and";
                case NOT: return "not";
                case COMMON: return "common";
                case LACK: return "lack";
                case MORE: return "more";
                case MANY: return "many";
                case OTHERS: return "others";
                case HEAD: return "head";
                default: return "";
            }
        }

        private static int kindOfSign(int sign) {
            switch (sign) {
                case ';': return SEMICOLON;
                case '+': return PLUS;
                case '-': return MINUS;
                case '*': return TIMES;
                case '/': return PART;
                case '(': return OPEN;
                case ')': return CLOSE;
                case '<': return BELOW;
                case '=': return SAME;
                case '>': return ABOVE;
                default: return BAD;
            }
        }
    }

    /** Reads a text as a law, from its first token to its last or to its first fault. */
    private static final class LawReader {
        private final Tokens tokens;
        private final Law law;
        private int at;
        private int kind;
        private int size;
        private int fault;
        private int faultPlace;

        LawReader() {
            tokens = new Tokens();
            law = new Law();
            faultPlace = NONE;
        }

        void begin(byte[] tape, int length) {
            tokens.split(tape, length);
            at = 0;
            kind = tokens.kinds[0];
            size = 0;
            fault = 0;
            faultPlace = NONE;
            law.lines = 0;
        }

        boolean goesOn() {
            return kind != END;
        }

        private void step() {
            if (at + 1 < tokens.count) {
                at++;
            }
            kind = tokens.kinds[at];
        }

        private boolean fail(int which) {
            fault = which;
            faultPlace = tokens.places[at];
            return false;
        }

        private boolean pass(int wanted) {
            if (kind != wanted) {
                return fail(CANNOT_STAND);
            }
            step();
            return true;
        }

        private void put(int sign) {
            // Each token gives one sign at most, so the row never runs over.
            if (size < law.code.length) {
                law.code[size] = sign;
                size++;
            }
        }

        boolean readLine() {
            if (kind != FIX && kind != LOOSE) {
                return fail(CANNOT_STAND);
            }
            if (law.lines >= MOST_LINES) {
                return fail(TOO_MUCH);
            }
            law.fixing[law.lines] = kind == FIX ? 1 : 0;
            law.starts[law.lines] = size;
            step();
            if (kind == WHEN) {
                step();
                if (!readJoined(OR, 0)) {
                    return false;
                }
            }
            law.lines++;
            law.starts[law.lines] = size;
            return pass(SEMICOLON);
        }

        /** Conditions joined by "or", each of them conditions joined by "and". */
        private boolean readJoined(int by, int open) {
            for (int i = 0; i < TAPE_LENGTH; i++) {
                boolean read = by == OR ? readJoined(AND, open) : readCondition(open);
                if (!read) {
                    return false;
                }
                if (i > 0) {
                    put(FIRST_SIGN + by);
                }
                if (kind != by) {
                    return true;
                }
                step();
            }
            return true;
        }

        private boolean readCondition(int open) {
            if (kind != NOT && kind != OPEN) {
                return readComparison();
            }
            if (open >= MOST_OPEN) {
                return fail(TOO_MUCH);
            }
            boolean not = kind == NOT;
            step();
            if (!not) {
                return readJoined(OR, open + 1) && pass(CLOSE);
            }
            if (!readCondition(open + 1)) {
                return false;
            }
            put(FIRST_SIGN + NOT);
            return true;
        }

        private boolean readComparison() {
            if (!readSum()) {
                return false;
            }
            int by = kind;
            if (by != BELOW && by != SAME && by != ABOVE) {
                return fail(CANNOT_STAND);
            }
            step();
            if (!readSum()) {
                return false;
            }
            put(FIRST_SIGN + by);
            return true;
        }

        private boolean readSum() {
            int sumBy = END;
            int productBy = END;
            for (int i = 0; i < TAPE_LENGTH; i++) {
                if (!readUnit(productBy)) {
                    return false;
                }
                if (productBy != END) {
                    put(FIRST_SIGN + productBy);
                }
                productBy = kind == TIMES || kind == PART ? kind : END;
                if (productBy == END) {
                    // The product is whole, so the sign ahead of it has both its parts.
                    if (sumBy != END) {
                        put(FIRST_SIGN + sumBy);
                    }
                    if (kind != PLUS && kind != MINUS) {
                        return true;
                    }
                    sumBy = kind;
                }
                step();
            }
            return true;
        }

        private boolean readUnit(int productBy) {
            if (kind == NUMBER) {
                int number = tokens.numbers[at];
                if (productBy == PART && number == 0) {
                    return fail(PART_BY_ZERO);
                }
                put(number);
            } else if (productBy != PART && kind >= COMMON && kind <= HEAD) {
                put(FIRST_SIGN + kind);
            } else {
                return fail(CANNOT_STAND);
            }
            step();
            return true;
        }
    }

    /** What stood ahead of each of the latest editions. */
    private static final class Past {
        private final int[] states;
        private final int[] bookLines;
        private final int[] used;
        private int newest;
        private int kept;

        Past() {
            states = new int[KEPT_EDITIONS];
            bookLines = new int[KEPT_EDITIONS];
            used = new int[KEPT_EDITIONS * MOST_ENTRIES * ROW];
        }

        void forget() {
            kept = 0;
        }

        void keep(Told told) {
            newest = newest + 1 < KEPT_EDITIONS ? newest + 1 : 0;
            if (kept < KEPT_EDITIONS) {
                kept++;
            }
            states[newest] = told.state;
            bookLines[newest] = told.bookLines;
            System.arraycopy(told.used, 0, used, newest * told.used.length, told.used.length);
        }

        void bringBack(Told told) {
            told.state = states[newest];
            told.bookLines = bookLines[newest];
            System.arraycopy(used, newest * told.used.length, told.used, 0, told.used.length);
            told.edition--;
            newest = newest > 0 ? newest - 1 : KEPT_EDITIONS - 1;
            kept--;
        }
    }

    /** The first FAULT of a dictionary. */
    private static final class Judgement {
        private int which;
        private int entry;
        private int word;

        void passOn(Told told) {
            which = 0;
            entry = NONE;
            word = NONE;
            int earlierHeads = 0;
            for (int e = 0; e < told.entries && which == 0; e++) {
                passOnEntry(told, e, earlierHeads);
                earlierHeads |= 1 << told.heads[e];
            }
        }

        private void passOnEntry(Told told, int e, int earlierHeads) {
            if ((earlierHeads >> told.heads[e] & 1) != 0) {
                find(1, e, NONE);
                return;
            }
            int spent = firstSpent(told, e);
            if (spent != NONE) {
                find(2, e, spent);
                return;
            }
            if (!told.isFixed(e)) {
                find(3, e, NONE);
                return;
            }
            int untold = firstOutside(told, e, told.known | earlierHeads);
            if (untold != NONE) {
                find(4, e, untold);
            }
        }

        private void find(int fault, int e, int w) {
            which = fault;
            entry = e;
            word = w;
        }

        private static int firstSpent(Told told, int e) {
            for (int i = 0; i < told.counts[e]; i++) {
                int w = told.used[e * ROW + i];
                if (told.usesAhead(w, e) >= told.limit) {
                    return w;
                }
            }
            return NONE;
        }

        private static int firstOutside(Told told, int e, int set) {
            for (int i = 0; i < told.counts[e]; i++) {
                int w = told.used[e * ROW + i];
                if ((set >> w & 1) == 0) {
                    return w;
                }
            }
            return NONE;
        }
    }

    /** Entries as rules, by which words that are known give others. */
    private static final class Thought {
        private final int[] needs;
        private final int[] gives;
        private int rules;
        private final int[] row;
        private int ordered;
        private int left;
        private int learntSet;
        private int rounds;
        private int goal;
        private int choices;

        Thought() {
            needs = new int[MOST_ENTRIES];
            gives = new int[MOST_ENTRIES];
            row = new int[MOST_ENTRIES];
        }

        void takeEntries(Told told) {
            rules = 0;
            for (int e = 0; e < told.entries; e++) {
                addRule(told, e);
            }
        }

        void takeFixedEntries(Told told) {
            rules = 0;
            for (int e = 0; e < told.entries; e++) {
                if (told.isFixed(e)) {
                    addRule(told, e);
                }
            }
        }

        private void addRule(Told told, int e) {
            needs[rules] = told.usedSet(e);
            gives[rules] = 1 << told.heads[e];
            rules++;
        }

        int allNeeds() {
            int set = 0;
            for (int r = 0; r < rules; r++) {
                set |= needs[r];
            }
            return set;
        }

        void learnFrom(int set) {
            learntSet = set;
            rounds = 0;
            // Each round that counts brings a rule's word, so there are no more of them than rules.
            for (int i = 0; i < rules; i++) {
                int behind = learntSet | given(learntSet);
                if (behind == learntSet) {
                    return;
                }
                learntSet = behind;
                rounds++;
            }
        }

        private int given(int known) {
            int set = 0;
            for (int r = 0; r < rules; r++) {
                if ((needs[r] & ~known) == 0) {
                    set |= gives[r];
                }
            }
            return set;
        }

        void orderEntries(Told told) {
            takeEntries(told);
            ordered = 0;
            left = (1 << rules) - 1;
            int have = told.known;
            for (int i = 0; i < rules; i++) {
                int e = firstReady(have);
                if (e == NONE) {
                    return;
                }
                row[ordered] = e;
                ordered++;
                left &= ~(1 << e);
                have |= gives[e];
            }
        }

        private int firstReady(int have) {
            for (int e = 0; e < rules; e++) {
                if ((left >> e & 1) != 0 && (needs[e] & ~have) == 0) {
                    return e;
                }
            }
            return NONE;
        }

        /** The fewest words, of several the least set, that with those of start give the wanted ones. */
        int fewest(int start, int wanted) {
            goal = wanted;
            int given = 0;
            for (int r = 0; r < rules; r++) {
                given |= gives[r];
            }
            int forced = wanted & ~start & ~given;
            int known = spread(start | forced);
            choices = wanted & ~known;
            for (int r = 0; r < rules; r++) {
                if ((gives[r] & ~known) != 0) {
                    choices |= needs[r] & ~known;
                }
            }
            for (int size = 0; size <= MOST_WORDS; size++) {
                int picked = pick(known, size, MOST_WORDS);
                if (picked != NONE) {
                    return forced | picked;
                }
            }
            return forced | choices;
        }

        /** The least set of so many choices below top that reaches the goal. */
        private int pick(int known, int size, int top) {
            if (size == 0) {
                return (goal & ~known) == 0 ? 0 : NONE;
            }
            for (int w = size - 1; w < top; w++) {
                // A choice that is known already would make a smaller set do, and none does.
                if ((choices & ~known & 1 << w) != 0) {
                    int rest = pick(spread(known | 1 << w), size - 1, w);
                    if (rest != NONE) {
                        return rest | 1 << w;
                    }
                }
            }
            return NONE;
        }

        private int spread(int start) {
            int known = start;
            for (int i = 0; i < rules; i++) {
                int ahead = known;
                for (int r = 0; r < rules; r++) {
                    if ((needs[r] & ~known) == 0) {
                        known |= gives[r];
                    }
                }
                if (known == ahead) {
                    return known;
                }
            }
            return known;
        }
    }

    /** Couples of entries that could change a word for one another. */
    private static final class Trades {
        private int count;
        private final int[] first;
        private int fixed;

        Trades() {
            first = new int[4];
        }

        void seek(Told told) {
            count = 0;
            fixed = 0;
            for (int i = 0; i < first.length; i++) {
                first[i] = NONE;
            }
            for (int e = 0; e < told.entries; e++) {
                fixed |= told.isFixed(e) ? 1 << e : 0;
            }
            for (int e = 0; e < told.entries; e++) {
                for (int f = e + 1; f < told.entries; f++) {
                    int both = 1 << e | 1 << f;
                    if ((fixed & both) != both) {
                        seekBetween(told, e, f);
                    }
                }
            }
        }

        private void seekBetween(Told told, int e, int f) {
            for (int i = 0; i < told.counts[e]; i++) {
                for (int j = 0; j < told.counts[f]; j++) {
                    if (wouldFix(told, e, i, told.used[f * ROW + j])
                            && wouldFix(told, f, j, told.used[e * ROW + i])) {
                        note(e, f, i, j);
                    }
                }
            }
        }

        private static boolean wouldFix(Told told, int e, int i, int word) {
            int head = told.heads[e];
            int others = told.usedSet(e) & ~(1 << told.used[e * ROW + i]);
            if (word == head || (others >> word & 1) != 0) {
                return false;
            }
            return told.fixedBy(head, others | 1 << word);
        }

        private void note(int e, int f, int i, int j) {
            if (count == 0) {
                first[0] = e;
                first[1] = f;
                first[2] = i;
                first[3] = j;
            }
            count++;
        }
    }

    /** The most heads that so many uses of each word allow. */
    private static final class Packing {
        private static final int MOST_SETS = 21;
        // One bit in each of the seven pairs of bits in which the uses left are counted.
        private static final int LOW_BITS = 0x1555;
        private static final int SLOTS = 4096;

        private int told;
        private final int[] chosen;
        private int heads;
        private final int[] sets;
        private final int[] setCounts;
        private final int[] lean;
        private final int[] leanCounts;
        private final int[] tellable;
        // What was found for a head and the uses left, marked by the stamp of the call for which it holds. In the 512
        // calls of an object a stamp never needs more than the bits that the key has for it.
        private final int[] found;
        private int stamp;

        Packing() {
            chosen = new int[PACKED_WORDS];
            sets = new int[PACKED_WORDS * MOST_SETS];
            setCounts = new int[PACKED_WORDS];
            lean = new int[PACKED_WORDS * MOST_SETS];
            leanCounts = new int[PACKED_WORDS];
            tellable = new int[PACKED_WORDS + 1];
            found = new int[SLOTS];
        }

        /** Works for a dictionary of seven words at most. */
        void pack(Told from, int m) {
            heads = from.words;
            listSets(from);
            stamp++;
            int left = m * spaced((1 << heads) - 1);
            told = mostFrom(0, left);
            choose(left);
        }

        private void listSets(Told from) {
            for (int h = 0; h < heads; h++) {
                setCounts[h] = 0;
                leanCounts[h] = 0;
                int single = singlesThatFix(from, h);
                for (int set = 1; set < 1 << heads; set++) {
                    if (Integer.bitCount(set) <= 2 && (set >> h & 1) == 0 && from.fixedBy(h, set)) {
                        addSet(h, set, single);
                    }
                }
            }
            tellable[heads] = 0;
            for (int h = heads - 1; h >= 0; h--) {
                tellable[h] = tellable[h + 1] + (setCounts[h] > 0 ? 1 : 0);
            }
        }

        private int singlesThatFix(Told from, int h) {
            int single = 0;
            for (int w = 0; w < heads; w++) {
                if (w != h && from.fixedBy(h, 1 << w)) {
                    single |= 1 << w;
                }
            }
            return single;
        }

        private void addSet(int h, int set, int single) {
            sets[h * MOST_SETS + setCounts[h]] = set;
            setCounts[h]++;
            // Two words never allow more heads than one of them that would do alone.
            if ((set & single) == 0 || Integer.bitCount(set) == 1) {
                lean[h * MOST_SETS + leanCounts[h]] = spaced(set);
                leanCounts[h]++;
            }
        }

        private static int spaced(int set) {
            int spaced = 0;
            for (int w = 0; w < PACKED_WORDS; w++) {
                spaced |= (set >> w & 1) << 2 * w;
            }
            return spaced;
        }

        private static boolean fits(int left, int spaced) {
            return (spaced & ~((left | left >> 1) & LOW_BITS)) == 0;
        }

        private int mostFrom(int h, int left) {
            if (h >= heads || tellable[h] == 0) {
                return 0;
            }
            int key = stamp << 17 | h << 14 | left;
            int slot = slotOf(key);
            if (found[slot] >> 3 == key) {
                return found[slot] & 7;
            }
            int best = 0;
            for (int i = 0; i < leanCounts[h] && best < tellable[h]; i++) {
                int spaced = lean[h * MOST_SETS + i];
                if (fits(left, spaced)) {
                    best = Math.max(best, 1 + mostFrom(h + 1, left - spaced));
                }
            }
            if (best < tellable[h + 1]) {
                best = Math.max(best, mostFrom(h + 1, left));
            }
            found[slot] = key << 3 | best;
            return best;
        }

        /** Keys are scattered over the slots; one that takes another's slot only makes that one be sought again. */
        private static int slotOf(int key) {
            return key * 0x9E3779B1 >>> 20;
        }

        private void choose(int allLeft) {
            int left = allLeft;
            int due = told;
            for (int h = 0; h < heads; h++) {
                chosen[h] = mostFrom(h + 1, left) == due ? 0 : leastSet(h, left, due);
                if (chosen[h] != 0) {
                    left -= spaced(chosen[h]);
                    due--;
                }
            }
        }

        private int leastSet(int h, int left, int due) {
            for (int i = 0; i < setCounts[h]; i++) {
                int set = sets[h * MOST_SETS + i];
                int spaced = spaced(set);
                if (fits(left, spaced) && 1 + mostFrom(h + 1, left - spaced) == due) {
                    return set;
                }
            }
            return 0;
        }
    }
}
