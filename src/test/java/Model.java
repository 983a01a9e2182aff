import java.util.ArrayList;
import java.util.Arrays;
import java.util.HashMap;
import java.util.List;
import java.util.Map;

/** The document once more, in the plainest way and without regard for speed, to hold the class against. */
final class Model {
    static final class Entry {
        final int head;
        final List<Integer> used;

        Entry(int head, List<Integer> used) {
            this.head = head;
            this.used = new ArrayList<>(used);
        }

        Entry copy() {
            return new Entry(head, used);
        }

        int set() {
            int set = 0;
            for (int w : used) {
                set |= 1 << w;
            }
            return set;
        }
    }

    static final class World {
        int state;
        int limit = 1;
        int change;
        int edition;
        List<Integer> marks = new ArrayList<>();
        List<Boolean> known = new ArrayList<>();
        List<Entry> entries = new ArrayList<>();
        List<int[]> book = new ArrayList<>();
        String law = "";
        int lawLines;

        World copy() {
            World w = new World();
            w.state = state;
            w.limit = limit;
            w.change = change;
            w.edition = edition;
            w.marks.addAll(marks);
            w.known.addAll(known);
            for (Entry e : entries) {
                w.entries.add(e.copy());
            }
            w.book.addAll(book);
            w.law = law;
            w.lawLines = lawLines;
            return w;
        }
    }

    World w = new World();
    World image;
    List<World> past = new ArrayList<>();
    StringBuilder tape = new StringBuilder();
    int fault = 0;
    int faultPlace = -1;

    int n() {
        return w.marks.size();
    }

    boolean isWord(int v) {
        return v >= 0 && v < n();
    }

    boolean isSet(int set) {
        return set >= 0 && set < 1 << n();
    }

    int state(int v) {
        int was = w.state;
        w.state = v;
        past.clear();
        return was;
    }

    int word(int marks) {
        if (marks < 1 || marks > 1023 || n() == 16) {
            return -1;
        }
        w.marks.add(marks);
        w.known.add(false);
        past.clear();
        return n() - 1;
    }

    boolean set(int what, int word, int v) {
        if (what == 0 && v >= 1 && v <= 3) {
            w.limit = v;
        } else if (what == 1 && v >= 0 && v <= 1000) {
            w.change = v;
        } else if (what == 2 && isWord(word) && (v == 0 || v == 1)) {
            w.known.set(word, v == 1);
        } else if (what == 3 && isWord(word) && v >= 1 && v <= 1023) {
            w.marks.set(word, v);
        } else {
            return false;
        }
        past.clear();
        return true;
    }

    boolean rowIsGood(int head, List<Integer> used) {
        if (!isWord(head)) {
            return false;
        }
        for (int i = 0; i < used.size(); i++) {
            int u = used.get(i);
            if (!isWord(u) || u == head || used.indexOf(u) != i) {
                return false;
            }
        }
        return true;
    }

    int entry(int head, int a, int b, int c) {
        List<Integer> used = new ArrayList<>();
        used.add(a);
        if (b != -1) {
            used.add(b);
        }
        if (c != -1) {
            used.add(c);
        }
        if (b == -1 && c != -1 || !rowIsGood(head, used) || w.entries.size() == 12) {
            return -1;
        }
        w.entries.add(new Entry(head, used));
        past.clear();
        return w.entries.size() - 1;
    }

    boolean isEntry(int e) {
        return e >= 0 && e < w.entries.size();
    }

    boolean drop(int e) {
        if (!isEntry(e)) {
            return false;
        }
        w.entries.remove(e);
        past.clear();
        return true;
    }

    boolean move(int e, int to) {
        if (!isEntry(e) || !isEntry(to)) {
            return false;
        }
        w.entries.add(to, w.entries.remove(e));
        past.clear();
        return true;
    }

    int feed(int a, int b, int c, int d, int e) {
        if (tape.length() > 380) {
            return -1;
        }
        for (int v : new int[] {a, b, c, d, e}) {
            tape.append((char) (v >>> 24)).append((char) (v >>> 16 & 255));
            tape.append((char) (v >>> 8 & 255)).append((char) (v & 255));
        }
        return tape.length();
    }

    boolean end(int length) {
        if (length < 0 || length > tape.length()) {
            return false;
        }
        tape.setLength(length);
        return true;
    }

    int text() {
        String text = tape.toString();
        tape.setLength(0);
        ModelLaw law = new ModelLaw(text);
        int lines = law.check();
        fault = law.fault;
        faultPlace = law.faultPlace;
        if (lines >= 0) {
            w.law = text;
            w.lawLines = lines;
        }
        return lines;
    }

    int fault(int what) {
        return what == 0 ? fault : what == 1 ? faultPlace : -1;
    }

    int draw(int m) {
        w.state = w.state * 1664525 + 1013904223;
        return (int) (((w.state & 0xFFFFFFFFL) >> 8) % m);
    }

    int editions(int count) {
        if (count < 1 || count > 50 || w.edition + count > 9999) {
            return -1;
        }
        int changed = 0;
        for (int i = 0; i < count; i++) {
            past.add(w.copy());
            if (past.size() > 6) {
                past.remove(0);
            }
            for (int e = 0; e < w.entries.size(); e++) {
                Entry entry = w.entries.get(e);
                if (w.change == 0 || draw(1000) >= w.change) {
                    continue;
                }
                int place = draw(entry.used.size());
                int word = draw(n());
                if (word == entry.head || entry.used.contains(word)) {
                    continue;
                }
                int was = entry.used.set(place, word);
                if (w.book.size() < 80) {
                    w.book.add(new int[] {w.edition, e, was, word});
                }
                changed++;
            }
            w.edition++;
        }
        return changed;
    }

    int uses(int word) {
        int uses = 0;
        for (Entry e : w.entries) {
            uses += e.used.contains(word) ? 1 : 0;
        }
        return uses;
    }

    int of(int word, int what) {
        if (!isWord(word) || what < 0 || what > 4) {
            return -2;
        }
        if (what == 0) {
            return w.marks.get(word);
        }
        if (what == 1) {
            return w.known.get(word) ? 1 : 0;
        }
        if (what == 2) {
            return uses(word);
        }
        if (what == 3) {
            for (int e = 0; e < w.entries.size(); e++) {
                if (w.entries.get(e).used.contains(word)) {
                    return e;
                }
            }
            return -1;
        }
        int set = 0;
        for (int v = 0; v < n(); v++) {
            set |= v != word && w.marks.get(v).equals(w.marks.get(word)) ? 1 << v : 0;
        }
        return set;
    }

    boolean fix(int head, int set) {
        int[] marks = new int[n()];
        for (int i = 0; i < n(); i++) {
            marks[i] = w.marks.get(i);
        }
        return new ModelLaw(w.law).fixes(marks, head, set);
    }

    int at(int e, int what) {
        if (!isEntry(e)) {
            return -1;
        }
        Entry entry = w.entries.get(e);
        if (what == 0) {
            return entry.head;
        }
        if (what == 1) {
            return entry.used.size();
        }
        if (what == 2) {
            return fix(entry.head, entry.set()) ? 1 : 0;
        }
        return what >= 10 && what < 10 + entry.used.size() ? entry.used.get(what - 10) : -1;
    }

    int fixes(int head, int set) {
        if (!isWord(head) || !isSet(set) || set == 0 || (set & 1 << head) != 0) {
            return -1;
        }
        return fix(head, set) ? 1 : 0;
    }

    int judge(int what) {
        int[] answer = {0, -1, -1};
        for (int e = 0; e < w.entries.size(); e++) {
            int[] f = faultOf(e);
            if (f[0] != 0) {
                answer = new int[] {f[0], e, f[1]};
                break;
            }
        }
        return what >= 0 && what <= 2 ? answer[what] : -1;
    }

    int[] faultOf(int e) {
        Entry entry = w.entries.get(e);
        List<Entry> ahead = w.entries.subList(0, e);
        List<Integer> heads = new ArrayList<>();
        for (Entry a : ahead) {
            heads.add(a.head);
        }
        if (heads.contains(entry.head)) {
            return new int[] {1, -1};
        }
        for (int u : entry.used) {
            int count = 0;
            for (Entry a : ahead) {
                count += a.used.contains(u) ? 1 : 0;
            }
            if (count >= w.limit) {
                return new int[] {2, u};
            }
        }
        if (!fix(entry.head, entry.set())) {
            return new int[] {3, -1};
        }
        for (int u : entry.used) {
            if (!w.known.get(u) && !heads.contains(u)) {
                return new int[] {4, u};
            }
        }
        return new int[] {0, -1};
    }

    int[] learn(int set, boolean[] fixed) {
        int known = set;
        for (int rounds = 0;; rounds++) {
            int behind = known;
            for (int e = 0; e < w.entries.size(); e++) {
                Entry entry = w.entries.get(e);
                if (fixed[e] && (entry.set() & ~known) == 0) {
                    behind |= 1 << entry.head;
                }
            }
            if (behind == known) {
                return new int[] {known, rounds};
            }
            known = behind;
        }
    }

    boolean[] fixedEntries() {
        boolean[] fixed = new boolean[w.entries.size()];
        for (int e = 0; e < fixed.length; e++) {
            fixed[e] = fix(w.entries.get(e).head, w.entries.get(e).set());
        }
        return fixed;
    }

    int learnt(int set, int what) {
        return !isSet(set) || what < 0 || what > 1 ? -1 : learn(set, fixedEntries())[what];
    }

    List<Integer> ordered(int known) {
        List<Integer> order = new ArrayList<>();
        int have = known;
        boolean more = true;
        while (more) {
            more = false;
            for (int e = 0; e < w.entries.size(); e++) {
                if (!order.contains(e) && (w.entries.get(e).set() & ~have) == 0) {
                    order.add(e);
                    have |= 1 << w.entries.get(e).head;
                    more = true;
                    break;
                }
            }
        }
        return order;
    }

    int knownSet() {
        int set = 0;
        for (int i = 0; i < n(); i++) {
            set |= w.known.get(i) ? 1 << i : 0;
        }
        return set;
    }

    int order(int i) {
        List<Integer> order = ordered(knownSet());
        return i >= 0 && i < order.size() ? order.get(i) : -1;
    }

    int ring() {
        List<Integer> order = ordered(knownSet());
        int set = 0;
        for (int e = 0; e < w.entries.size(); e++) {
            set |= order.contains(e) ? 0 : 1 << e;
        }
        return set;
    }

    int cut() {
        int best = -1;
        for (int set = 0; set < 1 << n(); set++) {
            if (best < 0 || Integer.bitCount(set) < Integer.bitCount(best)) {
                if (ordered(knownSet() | set).size() == w.entries.size()) {
                    best = set;
                }
            }
        }
        return best;
    }

    int least() {
        int heads = 0;
        for (Entry e : w.entries) {
            heads |= 1 << e.head;
        }
        boolean[] fixed = fixedEntries();
        int best = -1;
        for (int set = 0; set < 1 << n(); set++) {
            if (best < 0 || Integer.bitCount(set) < Integer.bitCount(best)) {
                if ((heads & ~learn(set, fixed)[0]) == 0) {
                    best = set;
                }
            }
        }
        return best;
    }

    int most(int m, int what) {
        if (m < 1 || m > 3 || n() > 7 || what != 0 && (what < 10 || what >= 10 + n())) {
            return -1;
        }
        List<List<Integer>> choices = mostChoices();
        Map<Integer, Integer> found = new HashMap<>();
        int[] left = new int[n()];
        Arrays.fill(left, m);
        int due = mostFrom(0, left, choices, found);
        if (what == 0) {
            return due;
        }
        int chosen = 0;
        for (int h = 0; h <= what - 10; h++) {
            chosen = firstChoice(h, left, due, choices, found);
            left = without(left, chosen);
            due -= chosen == 0 ? 0 : 1;
        }
        return chosen;
    }

    /** For each head none, and then the sets that fix it, the least first. */
    private List<List<Integer>> mostChoices() {
        List<List<Integer>> all = new ArrayList<>();
        for (int h = 0; h < n(); h++) {
            List<Integer> choices = new ArrayList<>();
            choices.add(0);
            for (int set = 1; set < 1 << n(); set++) {
                if (Integer.bitCount(set) <= 2 && (set & 1 << h) == 0 && fix(h, set)) {
                    choices.add(set);
                }
            }
            all.add(choices);
        }
        return all;
    }

    /** The uses left behind a set; null if a word of it has none left. */
    private static int[] without(int[] left, int set) {
        int[] behind = left.clone();
        for (int i = 0; i < left.length; i++) {
            behind[i] -= set >> i & 1;
            if (behind[i] < 0) {
                return null;
            }
        }
        return behind;
    }

    private int mostFrom(int h, int[] left, List<List<Integer>> choices, Map<Integer, Integer> found) {
        if (h == n()) {
            return 0;
        }
        int key = h;
        for (int uses : left) {
            key = key * 4 + uses;
        }
        if (!found.containsKey(key)) {
            int best = 0;
            for (int set : choices.get(h)) {
                int[] behind = without(left, set);
                if (behind != null) {
                    best = Math.max(best, (set == 0 ? 0 : 1) + mostFrom(h + 1, behind, choices, found));
                }
            }
            found.put(key, best);
        }
        return found.get(key);
    }

    private int firstChoice(int h, int[] left, int due, List<List<Integer>> choices, Map<Integer, Integer> found) {
        for (int set : choices.get(h)) {
            int[] behind = without(left, set);
            if (behind != null && (set == 0 ? 0 : 1) + mostFrom(h + 1, behind, choices, found) == due) {
                return set;
            }
        }
        throw new IllegalStateException("no choice leads to the most");
    }

    int worn(int e, int i) {
        if (!isEntry(e) || i < 0 || i >= w.entries.get(e).used.size()) {
            return -1;
        }
        int set = 0;
        int was = w.entries.get(e).used.get(i);
        for (int v = 0; v < n(); v++) {
            Entry entry = w.entries.get(e);
            entry.used.set(i, v);
            if (rowIsGood(entry.head, entry.used) && uses(v) <= w.limit && fix(entry.head, entry.set())) {
                set |= 1 << v;
            }
            entry.used.set(i, was);
        }
        return set;
    }

    int trade(int what) {
        int count = 0;
        int[] first = {-1, -1, -1, -1};
        for (int e = 0; e < w.entries.size(); e++) {
            for (int f = e + 1; f < w.entries.size(); f++) {
                for (int i = 0; i < w.entries.get(e).used.size(); i++) {
                    for (int j = 0; j < w.entries.get(f).used.size(); j++) {
                        if (couldTrade(w.entries.get(e), w.entries.get(f), i, j)) {
                            if (count == 0) {
                                first = new int[] {e, f, i, j};
                            }
                            count++;
                        }
                    }
                }
            }
        }
        return what == 0 ? count : what >= 1 && what <= 4 ? first[what - 1] : -1;
    }

    boolean couldTrade(Entry e, Entry f, int i, int j) {
        if (fix(e.head, e.set()) && fix(f.head, f.set())) {
            return false;
        }
        Entry a = e.copy();
        Entry b = f.copy();
        a.used.set(i, f.used.get(j));
        b.used.set(j, e.used.get(i));
        return rowIsGood(a.head, a.used) && rowIsGood(b.head, b.used)
                && fix(a.head, a.set()) && fix(b.head, b.set());
    }

    int book(int i, int what) {
        return i < 0 || i >= w.book.size() || what < 0 || what > 3 ? -1 : w.book.get(i)[what];
    }

    boolean undo() {
        if (past.isEmpty()) {
            return false;
        }
        World back = past.remove(past.size() - 1);
        back.law = w.law;
        back.lawLines = w.lawLines;
        w = back;
        return true;
    }

    boolean image(boolean taken) {
        if (taken) {
            image = w.copy();
            return true;
        }
        if (image == null) {
            return false;
        }
        w = image.copy();
        past.clear();
        return true;
    }

    int look(int what) {
        int[] all = {n(), w.entries.size(), w.limit, w.change, w.edition, w.book.size(), w.state, w.lawLines,
            past.size()};
        return what >= 0 && what < all.length ? all[what] : -1;
    }
}
