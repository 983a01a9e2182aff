/** A dictionary that may use each word but so often, in all its entries, to explain the others. */
public final class NoWordTwice {
    public static final int NONE = -1;

    private static final int MOST_WORDS = 16;
    private static final int MOST_MARKS = 1023;
    private static final int MOST_ENTRIES = 12;
    private static final int ROW = 3;
    private static final int MOST_LIMIT = 3;
    private static final int MOST_CHANGE = 1000;
    private static final int MOST_EDITION = 9999;
    private static final int MOST_EDITIONS_AT_ONCE = 50;
    private static final int BOOK_LINES = 80;
    private static final int BOOK_ROW = 4;
    private static final int TAPE_LENGTH = 400;
    private static final int FED_BYTES = 20;
    private static final int MOST_LINES = 16;
    private static final int MOST_OPEN = 8;
    private static final int KEPT_EDITIONS = 6;
    private static final int PACKED_WORDS = 7;

    private static final int CANNOT_STAND = 1;
    private static final int PART_BY_ZERO = 2;
    private static final int TOO_MUCH = 3;

    private static final int END = 0;
    private static final int BAD = 1;
    private static final int NUMBER = 2;
    private static final int FIX = 3;
    private static final int LOOSE = 4;
    private static final int WHEN = 5;
    private static final int OR = 6;
    private static final int AND = 7;
    private static final int NOT = 8;
    private static final int COMMON = 9;
    private static final int LACK = 10;
    private static final int MORE = 11;
    private static final int MANY = 12;
    private static final int OTHERS = 13;
    private static final int HEAD = 14;
    private static final int SEMICOLON = 15;
    private static final int PLUS = 16;
    private static final int MINUS = 17;
    private static final int TIMES = 18;
    private static final int PART = 19;
    private static final int OPEN = 20;
    private static final int CLOSE = 21;
    private static final int BELOW = 22;
    private static final int SAME = 23;
    private static final int ABOVE = 24;

    // In the code of a law every number stands below this, so what is at or above it is a token's kind.
    private static final int FIRST_SIGN = 10000;
    // Eight open brackets with "or" and "and" waiting in each, and one comparison, need 22.
    private static final int STACK = 32;

    private final Told now;
    private final Told imageHeld;
    private boolean imageTaken;
    private final byte[] tape;
    private int tapeLength;
    private final LawReader reader;
    private final Past past;
    private final Judgement judgement;
    private final Thought thought;
    private final Trades trades;
    private final Packing packing;

    public NoWordTwice() {
        now = new Told();
        imageHeld = new Told();
        imageTaken = false;
        tape = new byte[TAPE_LENGTH];
        tapeLength = 0;
        reader = new LawReader();
        past = new Past();
        judgement = new Judgement();
        thought = new Thought();
        trades = new Trades();
        packing = new Packing();
    }

    public int state(int v) {
        int was = now.state;
        now.state = v;
        past.forget();
        return was;
    }

    public int word(int marks) {
        if (now.words >= MOST_WORDS || !canBeMarks(marks)) {
            return NONE;
        }
        int added = now.words;
        now.marks[added] = marks;
        now.words = added + 1;
        past.forget();
        return added;
    }

    public boolean set(int what, int word, int v) {
        boolean told;
        switch (what) {
            case 0: told = setLimit(v); break;
            case 1: told = setChange(v); break;
            case 2: told = setKnown(word, v); break;
            case 3: told = setMarks(word, v); break;
            default: told = false; break;
        }
        if (told) {
            past.forget();
        }
        return told;
    }

    public int entry(int head, int a, int b, int c) {
        if (now.entries >= MOST_ENTRIES || !now.canBeEntry(head, a, b, c)) {
            return NONE;
        }
        int added = now.addEntry(head, a, b, c);
        past.forget();
        return added;
    }

    public boolean drop(int entry) {
        if (!now.hasEntry(entry)) {
            return false;
        }
        now.moveEntry(entry, now.entries - 1);
        now.entries--;
        past.forget();
        return true;
    }

    public boolean move(int entry, int to) {
        if (!now.hasEntry(entry) || !now.hasEntry(to)) {
            return false;
        }
        now.moveEntry(entry, to);
        past.forget();
        return true;
    }

    public int feed(int a, int b, int c, int d, int e) {
        if (tapeLength + FED_BYTES > TAPE_LENGTH) {
            return NONE;
        }
        putBytes(a);
        putBytes(b);
        putBytes(c);
        putBytes(d);
        putBytes(e);
        return tapeLength;
    }

    public boolean end(int n) {
        if (n < 0 || n > tapeLength) {
            return false;
        }
        tapeLength = n;
        return true;
    }

    public int text() {
        boolean good = reader.readLaw(tape, tapeLength);
        tapeLength = 0;
        if (!good) {
            return NONE;
        }
        now.law.copyFrom(reader.law);
        return now.law.lines;
    }

    public int fault(int what) {
        switch (what) {
            case 0: return reader.fault;
            case 1: return reader.faultPlace;
            default: return NONE;
        }
    }

    public int editions(int n) {
        if (n < 1 || n > MOST_EDITIONS_AT_ONCE || now.edition + n > MOST_EDITION) {
            return NONE;
        }
        int changed = 0;
        for (int i = 0; i < n; i++) {
            past.keep(now);
            changed += now.bringOutEdition();
        }
        return changed;
    }

    public int of(int word, int what) {
        if (!now.hasWord(word)) {
            return NONE - 1;
        }
        switch (what) {
            case 0: return now.marks[word];
            case 1: return now.known >> word & 1;
            case 2: return now.usesAhead(word, now.entries);
            case 3: return now.firstUse(word);
            case 4: return now.alike(word);
            default: return NONE - 1;
        }
    }

    public int at(int entry, int what) {
        if (!now.hasEntry(entry)) {
            return NONE;
        }
        switch (what) {
            case 0: return now.heads[entry];
            case 1: return now.counts[entry];
            case 2: return now.isFixed(entry) ? 1 : 0;
            default: return what >= 10 ? now.usedWord(entry, what - 10) : NONE;
        }
    }

    public int fixes(int head, int set) {
        if (!now.hasWord(head) || !now.hasSet(set) || set == 0 || (set >> head & 1) != 0) {
            return NONE;
        }
        return now.fixedBy(head, set) ? 1 : 0;
    }

    public int judge(int what) {
        judgement.passOn(now);
        switch (what) {
            case 0: return judgement.which;
            case 1: return judgement.entry;
            case 2: return judgement.word;
            default: return NONE;
        }
    }

    public int learnt(int set, int what) {
        if (!now.hasSet(set) || what < 0 || what > 1) {
            return NONE;
        }
        thought.takeFixedEntries(now);
        thought.learnFrom(set);
        return what == 0 ? thought.learntSet : thought.rounds;
    }

    public int order(int i) {
        thought.orderEntries(now);
        return i >= 0 && i < thought.ordered ? thought.row[i] : NONE;
    }

    public int ring() {
        thought.orderEntries(now);
        return thought.left;
    }

    public int cut() {
        thought.takeEntries(now);
        return thought.fewest(now.known, thought.allNeeds());
    }

    public int least() {
        thought.takeFixedEntries(now);
        return thought.fewest(0, now.allHeads());
    }

    public int most(int m, int what) {
        boolean asked = what == 0 || what >= 10 && now.hasWord(what - 10);
        if (m < 1 || m > MOST_LIMIT || now.words > PACKED_WORDS || !asked) {
            return NONE;
        }
        packing.pack(now, m);
        return what == 0 ? packing.told : packing.chosen[what - 10];
    }

    public int worn(int entry, int i) {
        if (!now.hasEntry(entry) || i < 0 || i >= now.counts[entry]) {
            return NONE;
        }
        return now.readable(entry, i);
    }

    public int trade(int what) {
        if (what < 0 || what > 4) {
            return NONE;
        }
        trades.seek(now);
        return what == 0 ? trades.count : trades.first[what - 1];
    }

    public int book(int i, int what) {
        if (i < 0 || i >= now.bookLines || what < 0 || what >= BOOK_ROW) {
            return NONE;
        }
        return now.book[i * BOOK_ROW + what];
    }

    public boolean undo() {
        if (past.kept == 0) {
            return false;
        }
        past.bringBack(now);
        return true;
    }

    public boolean image(boolean taken) {
        if (taken) {
            imageHeld.copyFrom(now);
            imageTaken = true;
            return true;
        }
        if (!imageTaken) {
            return false;
        }
        now.copyFrom(imageHeld);
        past.forget();
        return true;
    }

    public int look(int what) {
        switch (what) {
            case 0: return now.words;
            case 1: return now.entries;
            case 2: return now.limit;
            case 3: return now.change;
            case 4: return now.edition;
            case 5: return now.bookLines;
            case 6: return now.state;
            case 7: return now.law.lines;
            case 8: return past.kept;
            default: return NONE;
        }
    }

    private static boolean canBeMarks(int marks) {
        return marks >= 1 && marks <= MOST_MARKS;
    }

    private boolean setLimit(int v) {
        if (v < 1 || v > MOST_LIMIT) {
            return false;
        }
        now.limit = v;
        return true;
    }

    private boolean setChange(int v) {
        if (v < 0 || v > MOST_CHANGE) {
            return false;
        }
        now.change = v;
        return true;
    }

    private boolean setKnown(int word, int v) {
        if (!now.hasWord(word) || v < 0 || v > 1) {
            return false;
        }
        now.known = now.known & ~(1 << word) | v << word;
        return true;
    }

    private boolean setMarks(int word, int v) {
        if (!now.hasWord(word) || !canBeMarks(v)) {
            return false;
        }
        now.marks[word] = v;
        return true;
    }

    private void putBytes(int four) {
        for (int shift = 24; shift >= 0 && tapeLength < tape.length; shift -= 8) {
            tape[tapeLength] = (byte) (four >> shift);
            tapeLength++;
        }
    }

    /** All that THE IMAGE holds: what was told and what the editions made of it. */
    private static final class Told {
        private int state;
        private int limit;
        private int change;
        private int edition;
        private int words;
        private final int[] marks;
        private int known;
        private int entries;
        private final int[] heads;
        private final int[] counts;
        private final int[] used;
        private int bookLines;
        private final int[] book;
        private final Law law;

        Told() {
            limit = 1;
            marks = new int[MOST_WORDS];
            heads = new int[MOST_ENTRIES];
            counts = new int[MOST_ENTRIES];
            used = new int[MOST_ENTRIES * ROW];
            book = new int[BOOK_LINES * BOOK_ROW];
            law = new Law();
        }

        void copyFrom(Told from) {
            state = from.state;
            limit = from.limit;
            change = from.change;
            edition = from.edition;
            words = from.words;
            System.arraycopy(from.marks, 0, marks, 0, marks.length);
            known = from.known;
            entries = from.entries;
            System.arraycopy(from.heads, 0, heads, 0, heads.length);
            System.arraycopy(from.counts, 0, counts, 0, counts.length);
            System.arraycopy(from.used, 0, used, 0, used.length);
            bookLines = from.bookLines;
            System.arraycopy(from.book, 0, book, 0, book.length);
            law.copyFrom(from.law);
        }

        boolean hasWord(int word) {
            return word >= 0 && word < words;
        }

        boolean hasEntry(int entry) {
            return entry >= 0 && entry < entries;
        }

        boolean hasSet(int set) {
            return set >>> words == 0;
        }

        boolean canBeEntry(int head, int a, int b, int c) {
            if (!hasWord(head) || !hasWord(a) || a == head) {
                return false;
            }
            if (b == NONE) {
                return c == NONE;
            }
            if (!hasWord(b) || b == head || b == a) {
                return false;
            }
            return c == NONE || hasWord(c) && c != head && c != a && c != b;
        }

        int addEntry(int head, int a, int b, int c) {
            int added = entries;
            heads[added] = head;
            counts[added] = b == NONE ? 1 : c == NONE ? 2 : 3;
            used[added * ROW] = a;
            used[added * ROW + 1] = b;
            used[added * ROW + 2] = c;
            entries = added + 1;
            return added;
        }

        void moveEntry(int from, int to) {
            for (int e = from; e < to; e++) {
                swapEntries(e, e + 1);
            }
            for (int e = from; e > to; e--) {
                swapEntries(e, e - 1);
            }
        }

        private void swapEntries(int e, int f) {
            swapNumbers(heads, e, f);
            swapNumbers(counts, e, f);
            for (int i = 0; i < ROW; i++) {
                swapNumbers(used, e * ROW + i, f * ROW + i);
            }
        }

        private static void swapNumbers(int[] numbers, int i, int j) {
            int kept = numbers[i];
            numbers[i] = numbers[j];
            numbers[j] = kept;
        }

        int usedWord(int entry, int i) {
            return i >= 0 && i < counts[entry] ? used[entry * ROW + i] : NONE;
        }

        int usedSet(int entry) {
            int set = 0;
            for (int i = 0; i < counts[entry]; i++) {
                set |= 1 << used[entry * ROW + i];
            }
            return set;
        }

        boolean uses(int entry, int word) {
            return (usedSet(entry) >> word & 1) != 0;
        }

        int usesAhead(int word, int entry) {
            int uses = 0;
            for (int e = 0; e < entry; e++) {
                if (uses(e, word)) {
                    uses++;
                }
            }
            return uses;
        }

        int firstUse(int word) {
            for (int e = 0; e < entries; e++) {
                if (uses(e, word)) {
                    return e;
                }
            }
            return NONE;
        }

        int alike(int word) {
            int set = 0;
            for (int w = 0; w < words; w++) {
                if (w != word && marks[w] == marks[word]) {
                    set |= 1 << w;
                }
            }
            return set;
        }

        int allHeads() {
            int set = 0;
            for (int e = 0; e < entries; e++) {
                set |= 1 << heads[e];
            }
            return set;
        }

        boolean isFixed(int entry) {
            return fixedBy(heads[entry], usedSet(entry));
        }

        boolean fixedBy(int head, int set) {
            int all = 0;
            for (int w = 0; w < words; w++) {
                if ((set >> w & 1) != 0) {
                    all |= marks[w];
                }
            }
            law.give(COMMON, Integer.bitCount(marks[head] & all));
            law.give(LACK, Integer.bitCount(marks[head] & ~all));
            law.give(MORE, Integer.bitCount(all & ~marks[head]));
            law.give(MANY, Integer.bitCount(set));
            law.give(OTHERS, otherWordsWithin(all, set | 1 << head));
            law.give(HEAD, head);
            return law.saysFix();
        }

        private int otherWordsWithin(int all, int leftOut) {
            int others = 0;
            for (int w = 0; w < words; w++) {
                if ((leftOut >> w & 1) == 0 && (marks[w] & ~all) == 0) {
                    others++;
                }
            }
            return others;
        }

        int readable(int entry, int i) {
            int others = usedSet(entry) & ~(1 << used[entry * ROW + i]);
            int barred = others | 1 << heads[entry];
            int set = 0;
            for (int w = 0; w < words; w++) {
                boolean free = (barred >> w & 1) == 0 && usesElsewhere(w, entry) < limit;
                if (free && fixedBy(heads[entry], others | 1 << w)) {
                    set |= 1 << w;
                }
            }
            return set;
        }

        private int usesElsewhere(int word, int entry) {
            int uses = usesAhead(word, entries);
            return uses(entry, word) ? uses - 1 : uses;
        }

        private int draw(int m) {
            state = state * 1664525 + 1013904223;
            return m > 0 ? (state >>> 8) % m : 0;
        }

        int bringOutEdition() {
            int changed = 0;
            for (int e = 0; e < entries; e++) {
                if (change > 0 && draw(1000) < change && changeWord(e)) {
                    changed++;
                }
            }
            edition++;
            return changed;
        }

        private boolean changeWord(int entry) {
            int place = entry * ROW + draw(counts[entry]);
            int word = draw(words);
            if (word == heads[entry] || uses(entry, word)) {
                return false;
            }
            writeBook(entry, used[place], word);
            used[place] = word;
            return true;
        }

        private void writeBook(int entry, int was, int is) {
            if (bookLines >= BOOK_LINES) {
                return;
            }
            int line = bookLines * BOOK_ROW;
            book[line] = edition;
            book[line + 1] = entry;
            book[line + 2] = was;
            book[line + 3] = is;
            bookLines++;
        }
    }

    /** THE LAW, each line's condition as a row of signs, operands ahead of their operator. */
    private static final class Law {
        private int lines;
        private final int[] fixing;
        private final int[] starts;
        private final int[] code;
        private final int[] values;
        private final int[] stack;

        Law() {
            fixing = new int[MOST_LINES];
            starts = new int[MOST_LINES + 1];
            code = new int[TAPE_LENGTH];
            values = new int[HEAD - COMMON + 1];
            stack = new int[STACK];
        }

        void copyFrom(Law from) {
            lines = from.lines;
            System.arraycopy(from.fixing, 0, fixing, 0, fixing.length);
            System.arraycopy(from.starts, 0, starts, 0, starts.length);
            System.arraycopy(from.code, 0, code, 0, starts[lines]);
        }

        void clear() {
            lines = 0;
            starts[0] = 0;
        }

        void give(int kind, int value) {
            if (kind >= COMMON && kind <= HEAD) {
                values[kind - COMMON] = value;
            }
        }

        boolean saysFix() {
            for (int line = 0; line < lines; line++) {
                if (holds(starts[line], starts[line + 1])) {
                    return fixing[line] == 1;
                }
            }
            return false;
        }

        private boolean holds(int from, int to) {
            int depth = 0;
            for (int i = from; i < to; i++) {
                depth = work(code[i], depth);
            }
            return depth == 0 || stack[0] != 0;
        }

        private int work(int sign, int depth) {
            int kind = sign - FIRST_SIGN;
            if (kind < 0) {
                return push(sign, depth);
            }
            if (kind >= COMMON && kind <= HEAD) {
                return push(values[kind - COMMON], depth);
            }
            if (kind == NOT && depth >= 1) {
                stack[depth - 1] = 1 - stack[depth - 1];
                return depth;
            }
            if (depth < 2) {
                return depth;
            }
            stack[depth - 2] = joined(kind, stack[depth - 2], stack[depth - 1]);
            return depth - 1;
        }

        private int push(int value, int depth) {
            if (depth >= stack.length) {
                return depth;
            }
            stack[depth] = value;
            return depth + 1;
        }

        private static int joined(int kind, int a, int b) {
            switch (kind) {
                case PLUS: return a + b;
                case MINUS: return a - b;
                case TIMES: return a * b;
                case PART: return b == 0 ? 0 : a / b;
                case BELOW: return a < b ? 1 : 0;
                case SAME: return a == b ? 1 : 0;
                case ABOVE: return a > b ? 1 : 0;
                case AND: return a & b;
                case OR: return a | b;
                default: return 0;
            }
        }
    }

    /** Reads a text as a law, from its first token to its last or to its first fault. */
    private static final class LawReader {
        private final Law law;
        private byte[] tape;
        private int length;
        private int next;
        private int kind;
        private int place;
        private int number;
        private int size;
        private int fault;
        private int faultPlace;

        LawReader() {
            law = new Law();
            tape = new byte[0];
            faultPlace = NONE;
        }

        boolean readLaw(byte[] bytes, int count) {
            tape = bytes;
            length = count;
            next = 0;
            size = 0;
            fault = 0;
            faultPlace = NONE;
            law.clear();
            step();
            // One line more than may be is tried, so that the one too many is met.
            for (int line = 0; line <= MOST_LINES && kind != END; line++) {
                if (!readLine()) {
                    return false;
                }
            }
            return true;
        }

        private boolean fail(int which) {
            fault = which;
            faultPlace = place;
            return false;
        }

        private boolean readLine() {
            if (kind != FIX && kind != LOOSE) {
                return fail(CANNOT_STAND);
            }
            if (law.lines >= MOST_LINES) {
                return fail(TOO_MUCH);
            }
            law.fixing[law.lines] = kind == FIX ? 1 : 0;
            step();
            if (kind == WHEN) {
                step();
                if (!readEither(0)) {
                    return false;
                }
            }
            if (kind != SEMICOLON) {
                return fail(CANNOT_STAND);
            }
            step();
            law.lines++;
            law.starts[law.lines] = size;
            return true;
        }

        private boolean readEither(int open) {
            if (!readBoth(open)) {
                return false;
            }
            for (int i = 0; i < TAPE_LENGTH && kind == OR; i++) {
                step();
                if (!readBoth(open)) {
                    return false;
                }
                putSign(OR);
            }
            return true;
        }

        private boolean readBoth(int open) {
            if (!readCondition(open)) {
                return false;
            }
            for (int i = 0; i < TAPE_LENGTH && kind == AND; i++) {
                step();
                if (!readCondition(open)) {
                    return false;
                }
                putSign(AND);
            }
            return true;
        }

        private boolean readCondition(int open) {
            if (kind != NOT && kind != OPEN) {
                return readComparison();
            }
            if (open >= MOST_OPEN) {
                return fail(TOO_MUCH);
            }
            if (kind == NOT) {
                step();
                if (!readCondition(open + 1)) {
                    return false;
                }
                putSign(NOT);
                return true;
            }
            step();
            if (!readEither(open + 1)) {
                return false;
            }
            if (kind != CLOSE) {
                return fail(CANNOT_STAND);
            }
            step();
            return true;
        }

        private boolean readComparison() {
            if (!readSum()) {
                return false;
            }
            int by = kind;
            if (by != BELOW && by != SAME && by != ABOVE) {
                return fail(CANNOT_STAND);
            }
            step();
            if (!readSum()) {
                return false;
            }
            putSign(by);
            return true;
        }

        private boolean readSum() {
            if (!readProduct()) {
                return false;
            }
            for (int i = 0; i < TAPE_LENGTH && (kind == PLUS || kind == MINUS); i++) {
                int by = kind;
                step();
                if (!readProduct()) {
                    return false;
                }
                putSign(by);
            }
            return true;
        }

        private boolean readProduct() {
            if (!readUnit()) {
                return false;
            }
            for (int i = 0; i < TAPE_LENGTH && (kind == TIMES || kind == PART); i++) {
                int by = kind;
                step();
                if (by == PART && kind == NUMBER && number == 0) {
                    return fail(PART_BY_ZERO);
                }
                if (by == PART && kind != NUMBER) {
                    return fail(CANNOT_STAND);
                }
                if (!readUnit()) {
                    return false;
                }
                putSign(by);
            }
            return true;
        }

        private boolean readUnit() {
            if (kind == NUMBER) {
                putCode(number);
            } else if (kind >= COMMON && kind <= HEAD) {
                putSign(kind);
            } else {
                return fail(CANNOT_STAND);
            }
            step();
            return true;
        }

        private void putSign(int sign) {
            putCode(FIRST_SIGN + sign);
        }

        private void putCode(int code) {
            // Each token gives one sign at most, so the row never runs over.
            if (size < law.code.length) {
                law.code[size] = code;
                size++;
            }
        }

        private void step() {
            while (next < length && isBlank(tape[next])) {
                next++;
            }
            place = next;
            if (next >= length) {
                kind = END;
            } else if (isLetter(tape[next])) {
                stepLetters();
            } else if (isDigit(tape[next])) {
                stepDigits();
            } else {
                kind = kindOfSign(tape[next]);
                next++;
            }
        }

        private void stepLetters() {
            while (next < length && isLetter(tape[next])) {
                next++;
            }
            kind = BAD;
            for (int k = FIX; k <= HEAD; k++) {
                if (spells(keyword(k), place, next)) {
                    kind = k;
                }
            }
        }

        private boolean spells(String keyword, int from, int to) {
            if (keyword.length() != to - from) {
                return false;
            }
            for (int i = 0; i < keyword.length(); i++) {
                if (keyword.charAt(i) != tape[from + i]) {
                    return false;
                }
            }
            return true;
        }

        private void stepDigits() {
            number = 0;
            while (next < length && isDigit(tape[next])) {
                number = number * 10 + (tape[next] - '0');
                next++;
            }
            kind = next - place <= 4 ? NUMBER : BAD;
        }

        private static boolean isBlank(int sign) {
            return sign == 32 || sign == 10;
        }

        private static boolean isLetter(int sign) {
            return sign >= 'a' && sign <= 'z' || sign >= 'A' && sign <= 'Z';
        }

        private static boolean isDigit(int sign) {
            return sign >= '0' && sign <= '9';
        }

        private static String keyword(int kind) {
            switch (kind) {
                case FIX: return "fix";
                case LOOSE: return "loose";
                case WHEN: return "when";
                case OR: return "or";
                case AND: return "and";
                case NOT: return "not";
                case COMMON: return "common";
                case LACK: return "lack";
                case MORE: return "more";
                case MANY: return "many";
                case OTHERS: return "others";
                case HEAD: return "head";
                default: return "";
            }
        }

        private static int kindOfSign(int sign) {
            switch (sign) {
                case ';': return SEMICOLON;
                case '+': return PLUS;
                case '-': return MINUS;
                case '*': return TIMES;
                case '/': return PART;
                case '(': return OPEN;
                case ')': return CLOSE;
                case '<': return BELOW;
                case '=': return SAME;
                case '>': return ABOVE;
                default: return BAD;
            }
        }
    }

    /** What stood ahead of each of the latest editions. */
    private static final class Past {
        private final int[] states;
        private final int[] bookLines;
        private final int[] used;
        private int newest;
        private int kept;

        Past() {
            states = new int[KEPT_EDITIONS];
            bookLines = new int[KEPT_EDITIONS];
            used = new int[KEPT_EDITIONS * MOST_ENTRIES * ROW];
        }

        void forget() {
            kept = 0;
        }

        void keep(Told told) {
            newest = newest + 1 < KEPT_EDITIONS ? newest + 1 : 0;
            if (kept < KEPT_EDITIONS) {
                kept++;
            }
            states[newest] = told.state;
            bookLines[newest] = told.bookLines;
            System.arraycopy(told.used, 0, used, newest * told.used.length, told.used.length);
        }

        void bringBack(Told told) {
            told.state = states[newest];
            told.bookLines = bookLines[newest];
            System.arraycopy(used, newest * told.used.length, told.used, 0, told.used.length);
            told.edition--;
            newest = newest > 0 ? newest - 1 : KEPT_EDITIONS - 1;
            kept--;
        }
    }

    /** The first FAULT of a dictionary. */
    private static final class Judgement {
        private int which;
        private int entry;
        private int word;

        void passOn(Told told) {
            which = 0;
            entry = NONE;
            word = NONE;
            int earlierHeads = 0;
            for (int e = 0; e < told.entries && which == 0; e++) {
                passOnEntry(told, e, earlierHeads);
                earlierHeads |= 1 << told.heads[e];
            }
        }

        private void passOnEntry(Told told, int e, int earlierHeads) {
            if ((earlierHeads >> told.heads[e] & 1) != 0) {
                find(1, e, NONE);
                return;
            }
            int spent = firstSpent(told, e);
            if (spent != NONE) {
                find(2, e, spent);
                return;
            }
            if (!told.isFixed(e)) {
                find(3, e, NONE);
                return;
            }
            int untold = firstOutside(told, e, told.known | earlierHeads);
            if (untold != NONE) {
                find(4, e, untold);
            }
        }

        private void find(int fault, int e, int w) {
            which = fault;
            entry = e;
            word = w;
        }

        private static int firstSpent(Told told, int e) {
            for (int i = 0; i < told.counts[e]; i++) {
                int w = told.used[e * ROW + i];
                if (told.usesAhead(w, e) >= told.limit) {
                    return w;
                }
            }
            return NONE;
        }

        private static int firstOutside(Told told, int e, int set) {
            for (int i = 0; i < told.counts[e]; i++) {
                int w = told.used[e * ROW + i];
                if ((set >> w & 1) == 0) {
                    return w;
                }
            }
            return NONE;
        }
    }

    /** Entries as rules, by which words that are known give others. */
    private static final class Thought {
        private final int[] needs;
        private final int[] gives;
        private int rules;
        private final int[] row;
        private int ordered;
        private int left;
        private int learntSet;
        private int rounds;
        private int goal;
        private int choices;

        Thought() {
            needs = new int[MOST_ENTRIES];
            gives = new int[MOST_ENTRIES];
            row = new int[MOST_ENTRIES];
        }

        void takeEntries(Told told) {
            rules = 0;
            for (int e = 0; e < told.entries; e++) {
                addRule(told, e);
            }
        }

        void takeFixedEntries(Told told) {
            rules = 0;
            for (int e = 0; e < told.entries; e++) {
                if (told.isFixed(e)) {
                    addRule(told, e);
                }
            }
        }

        private void addRule(Told told, int e) {
            needs[rules] = told.usedSet(e);
            gives[rules] = 1 << told.heads[e];
            rules++;
        }

        int allNeeds() {
            int set = 0;
            for (int r = 0; r < rules; r++) {
                set |= needs[r];
            }
            return set;
        }

        void learnFrom(int set) {
            learntSet = set;
            rounds = 0;
            // Each round that counts brings a rule's word, so there are no more of them than rules.
            for (int i = 0; i < rules; i++) {
                int behind = learntSet | given(learntSet);
                if (behind == learntSet) {
                    return;
                }
                learntSet = behind;
                rounds++;
            }
        }

        private int given(int known) {
            int set = 0;
            for (int r = 0; r < rules; r++) {
                if ((needs[r] & ~known) == 0) {
                    set |= gives[r];
                }
            }
            return set;
        }

        void orderEntries(Told told) {
            takeEntries(told);
            ordered = 0;
            left = (1 << rules) - 1;
            int have = told.known;
            for (int i = 0; i < rules; i++) {
                int e = firstReady(have);
                if (e == NONE) {
                    return;
                }
                row[ordered] = e;
                ordered++;
                left &= ~(1 << e);
                have |= gives[e];
            }
        }

        private int firstReady(int have) {
            for (int e = 0; e < rules; e++) {
                if ((left >> e & 1) != 0 && (needs[e] & ~have) == 0) {
                    return e;
                }
            }
            return NONE;
        }

        /** The fewest words, of several the least set, that with those of start give the wanted ones. */
        int fewest(int start, int wanted) {
            goal = wanted;
            int given = 0;
            for (int r = 0; r < rules; r++) {
                given |= gives[r];
            }
            int forced = wanted & ~start & ~given;
            int known = spread(start | forced);
            choices = wanted & ~known;
            for (int r = 0; r < rules; r++) {
                if ((gives[r] & ~known) != 0) {
                    choices |= needs[r] & ~known;
                }
            }
            for (int size = 0; size <= MOST_WORDS; size++) {
                int picked = pick(known, size, MOST_WORDS);
                if (picked != NONE) {
                    return forced | picked;
                }
            }
            return forced | choices;
        }

        /** The least set of so many choices below top that reaches the goal. */
        private int pick(int known, int size, int top) {
            if (size == 0) {
                return (goal & ~known) == 0 ? 0 : NONE;
            }
            for (int w = size - 1; w < top; w++) {
                // A choice that is known already would make a smaller set do, and none does.
                if ((choices & ~known & 1 << w) != 0) {
                    int rest = pick(spread(known | 1 << w), size - 1, w);
                    if (rest != NONE) {
                        return rest | 1 << w;
                    }
                }
            }
            return NONE;
        }

        private int spread(int start) {
            int known = start;
            for (int i = 0; i < rules; i++) {
                int ahead = known;
                for (int r = 0; r < rules; r++) {
                    if ((needs[r] & ~known) == 0) {
                        known |= gives[r];
                    }
                }
                if (known == ahead) {
                    return known;
                }
            }
            return known;
        }
    }

    /** Couples of entries that could change a word for one another. */
    private static final class Trades {
        private int count;
        private final int[] first;
        private int fixed;

        Trades() {
            first = new int[4];
        }

        void seek(Told told) {
            count = 0;
            fixed = 0;
            for (int i = 0; i < first.length; i++) {
                first[i] = NONE;
            }
            for (int e = 0; e < told.entries; e++) {
                fixed |= told.isFixed(e) ? 1 << e : 0;
            }
            for (int e = 0; e < told.entries; e++) {
                for (int f = e + 1; f < told.entries; f++) {
                    int both = 1 << e | 1 << f;
                    if ((fixed & both) != both) {
                        seekBetween(told, e, f);
                    }
                }
            }
        }

        private void seekBetween(Told told, int e, int f) {
            for (int i = 0; i < told.counts[e]; i++) {
                for (int j = 0; j < told.counts[f]; j++) {
                    if (wouldFix(told, e, i, told.used[f * ROW + j])
                            && wouldFix(told, f, j, told.used[e * ROW + i])) {
                        note(e, f, i, j);
                    }
                }
            }
        }

        private static boolean wouldFix(Told told, int e, int i, int word) {
            int head = told.heads[e];
            int others = told.usedSet(e) & ~(1 << told.used[e * ROW + i]);
            if (word == head || (others >> word & 1) != 0) {
                return false;
            }
            return told.fixedBy(head, others | 1 << word);
        }

        private void note(int e, int f, int i, int j) {
            if (count == 0) {
                first[0] = e;
                first[1] = f;
                first[2] = i;
                first[3] = j;
            }
            count++;
        }
    }

    /** The most heads that so many uses of each word allow. */
    private static final class Packing {
        private static final int MOST_SETS = 21;
        // One bit in each of the seven pairs of bits in which the uses left are counted.
        private static final int LOW_BITS = 0x1555;

        private int told;
        private final int[] chosen;
        private int heads;
        private final int[] sets;
        private final int[] setCounts;
        private final int[] lean;
        private final int[] leanCounts;
        private final int[] tellable;
        private int[] found;
        private int stamp;

        Packing() {
            chosen = new int[PACKED_WORDS];
            sets = new int[PACKED_WORDS * MOST_SETS];
            setCounts = new int[PACKED_WORDS];
            lean = new int[PACKED_WORDS * MOST_SETS];
            leanCounts = new int[PACKED_WORDS];
            tellable = new int[PACKED_WORDS + 1];
            found = new int[0];
        }

        /** Works for a dictionary of seven words at most. */
        void pack(Told from, int m) {
            heads = from.words;
            listSets(from);
            int size = heads << 2 * heads;
            if (found.length < size) {
                found = new int[size];
            }
            stamp++;
            int left = m * spaced((1 << heads) - 1);
            told = mostFrom(0, left);
            choose(left);
        }

        private void listSets(Told from) {
            for (int h = 0; h < heads; h++) {
                setCounts[h] = 0;
                leanCounts[h] = 0;
                int single = singlesThatFix(from, h);
                for (int set = 1; set < 1 << heads; set++) {
                    if (Integer.bitCount(set) <= 2 && (set >> h & 1) == 0 && from.fixedBy(h, set)) {
                        addSet(h, set, single);
                    }
                }
            }
            tellable[heads] = 0;
            for (int h = heads - 1; h >= 0; h--) {
                tellable[h] = tellable[h + 1] + (setCounts[h] > 0 ? 1 : 0);
            }
        }

        private int singlesThatFix(Told from, int h) {
            int single = 0;
            for (int w = 0; w < heads; w++) {
                if (w != h && from.fixedBy(h, 1 << w)) {
                    single |= 1 << w;
                }
            }
            return single;
        }

        private void addSet(int h, int set, int single) {
            sets[h * MOST_SETS + setCounts[h]] = set;
            setCounts[h]++;
            // Two words never allow more heads than one of them that would do alone.
            if ((set & single) == 0 || Integer.bitCount(set) == 1) {
                lean[h * MOST_SETS + leanCounts[h]] = spaced(set);
                leanCounts[h]++;
            }
        }

        private static int spaced(int set) {
            int spaced = 0;
            for (int w = 0; w < PACKED_WORDS; w++) {
                spaced |= (set >> w & 1) << 2 * w;
            }
            return spaced;
        }

        private static boolean fits(int left, int spaced) {
            return (spaced & ~((left | left >> 1) & LOW_BITS)) == 0;
        }

        private int mostFrom(int h, int left) {
            if (h >= heads || tellable[h] == 0) {
                return 0;
            }
            int slot = h << 2 * heads | left;
            if (found[slot] >> 3 == stamp) {
                return found[slot] & 7;
            }
            int best = 0;
            for (int i = 0; i < leanCounts[h] && best < tellable[h]; i++) {
                int spaced = lean[h * MOST_SETS + i];
                if (fits(left, spaced)) {
                    best = Math.max(best, 1 + mostFrom(h + 1, left - spaced));
                }
            }
            if (best < tellable[h + 1]) {
                best = Math.max(best, mostFrom(h + 1, left));
            }
            found[slot] = stamp << 3 | best;
            return best;
        }

        private void choose(int allLeft) {
            int left = allLeft;
            int due = told;
            for (int h = 0; h < heads; h++) {
                chosen[h] = mostFrom(h + 1, left) == due ? 0 : leastSet(h, left, due);
                if (chosen[h] != 0) {
                    left -= spaced(chosen[h]);
                    due--;
                }
            }
        }

        private int leastSet(int h, int left, int due) {
            for (int i = 0; i < setCounts[h]; i++) {
                int set = sets[h * MOST_SETS + i];
                int spaced = spaced(set);
                if (fits(left, spaced) && 1 + mostFrom(h + 1, left - spaced) == due) {
                    return set;
                }
            }
            return 0;
        }
    }
}
