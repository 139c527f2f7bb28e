import java.util.ArrayList;
import java.util.Arrays;
import java.util.Comparator;
import java.util.HashSet;
import java.util.IdentityHashMap;
import java.util.LinkedHashMap;
import java.util.List;
import java.util.Map;
import java.util.Set;
import java.util.TreeMap;
import java.util.TreeSet;

/**
 * The document told a second time, as slowly and as plainly as can be, with nothing remembered that can
 * be searched for: ModelTests compares what LateIndexes answers with what this answers.
 */
final class Model {
    record Version(int key, List<Integer> row, int stamp) {
        boolean gone() {
            return row == null;
        }
    }

    record TableRun(TreeMap<Integer, Version> versions, int level, int from, int to) {
        boolean passes(int key) {
            return versions.keySet().stream().anyMatch(k -> k % 8 == key % 8);
        }
    }

    record Entry(int value, int key, int stamp) implements Comparable<Entry> {
        public int compareTo(Entry o) {
            return Comparator.comparingInt(Entry::value).thenComparingInt(Entry::key)
                    .thenComparingInt(Entry::stamp).compare(this, o);
        }
    }

    /** A class, not a record: each one is another one, whatever it has. */
    static final class EntryRun {
        final List<Entry> entries;
        final int level;
        final int repaired;

        EntryRun(List<Entry> entries, int level, int repaired) {
            this.entries = entries;
            this.level = level;
            this.repaired = repaired;
        }
    }

    record Term(int factor, int column) {
        int of(List<Integer> row) {
            return column < 0 ? factor : factor * row.get(column);
        }
    }

    record Atom(List<Term> left, char sign, List<Term> right) {
        boolean holds(List<Integer> row) {
            int l = sum(left, row);
            int r = sum(right, row);
            return sign == '<' && l < r || sign == '=' && l == r || sign == '>' && l > r;
        }
    }

    static int sum(List<Term> terms, List<Integer> row) {
        return terms.stream().mapToInt(t -> t.of(row)).sum();
    }

    static final class Idx {
        List<Term> sum = new ArrayList<>();
        List<Atom> atoms = new ArrayList<>();
        boolean unique;
        boolean mends;
        boolean built;
        int begun;
        int along;
        List<Entry> memory = new ArrayList<>();
        List<Entry> aside = new ArrayList<>();
        List<EntryRun> runs = new ArrayList<>();

        Idx copied() {
            Idx c = new Idx();
            c.sum = sum;
            c.atoms = atoms;
            c.unique = unique;
            c.mends = mends;
            c.built = built;
            c.begun = begun;
            c.along = along;
            c.memory = new ArrayList<>(memory);
            c.aside = new ArrayList<>(aside);
            c.runs = new ArrayList<>(runs);
            return c;
        }

        boolean wants(List<Integer> row) {
            return atoms.stream().allMatch(a -> a.holds(row));
        }

        int value(List<Integer> row) {
            return Model.sum(sum, row);
        }

        List<Entry> all() {
            List<Entry> all = new ArrayList<>(memory);
            runs.forEach(r -> all.addAll(r.entries));
            return all;
        }
    }

    static final class Cur {
        List<Integer> keys;
        int at;
        List<Object> holds;

        Cur copied() {
            Cur c = new Cur();
            c.keys = keys;
            c.at = at;
            c.holds = holds;
            return c;
        }
    }

    static final class State {
        List<Integer> tape = new ArrayList<>();
        int room = 4;
        int fan = 2;
        int stamp;
        int writes;
        int refused;
        int clashed;
        int fault;
        int place = -1;
        int[] cost;
        int[] why = {-1, -1, -1, -1, -1, -1};
        TreeMap<Integer, Version> memory = new TreeMap<>();
        List<TableRun> runs = new ArrayList<>();
        Idx[] indexes = new Idx[4];
        Cur[] cursors = new Cur[3];

        State copied() {
            State s = new State();
            s.tape = new ArrayList<>(tape);
            s.room = room;
            s.fan = fan;
            s.stamp = stamp;
            s.writes = writes;
            s.refused = refused;
            s.clashed = clashed;
            s.fault = fault;
            s.place = place;
            s.cost = cost;
            s.why = why;
            s.memory = new TreeMap<>(memory);
            s.runs = new ArrayList<>(runs);
            for (int i = 0; i < 4; i++) {
                s.indexes[i] = indexes[i] == null ? null : indexes[i].copied();
            }
            for (int i = 0; i < 3; i++) {
                s.cursors[i] = cursors[i] == null ? null : cursors[i].copied();
            }
            return s;
        }
    }

    private State s = new State();
    private final State[] images = new State[3];
    /** How many times RUNS of the TABLE were MERGED. */
    private int merges;

    // ---- what is searched for

    private Version latest(int key) {
        Version v = s.memory.get(key);
        for (int r = 0; v == null && r < s.runs.size(); r++) {
            v = s.runs.get(r).versions().get(key);
        }
        return v;
    }

    private boolean there(int key) {
        Version v = latest(key);
        return v != null && !v.gone();
    }

    private boolean stale(Entry e) {
        Version v = latest(e.key());
        return v == null || v.stamp() != e.stamp();
    }

    private Integer sure() {
        Integer least = null;
        for (Idx x : s.indexes) {
            Integer its = x == null ? null : sure(x);
            least = least == null || its != null && its < least ? its : least;
        }
        return least;
    }

    private Integer sure(Idx x) {
        Set<Integer> all = new TreeSet<>();
        x.runs.forEach(r -> all.add(r.repaired));
        if (!x.built) {
            all.add(x.begun);
        }
        return all.isEmpty() ? null : all.iterator().next();
    }

    private Idx find(int i) {
        return i < 0 || i > 3 ? null : s.indexes[i];
    }

    private Idx built(int i) {
        Idx x = find(i);
        return x == null || !x.built ? null : x;
    }

    private List<Integer> asked(Idx x, long low, long high) {
        List<int[]> found = new ArrayList<>();
        for (int key = 0; key < 32; key++) {
            if (there(key) && x.wants(latest(key).row())) {
                int v = x.value(latest(key).row());
                if (v >= low && v <= high) {
                    found.add(new int[] {v, key});
                }
            }
        }
        found.sort((p, q) -> p[0] != q[0] ? p[0] - q[0] : p[1] - q[1]);
        List<Integer> keys = new ArrayList<>();
        found.forEach(f -> keys.add(f[1]));
        return keys;
    }

    private int looks(int key, EntryRun run) {
        int looks = 1;
        if (run == null || s.memory.containsKey(key)) {
            return looks;
        }
        for (TableRun t : s.runs) {
            if (t.to() > run.repaired && t.passes(key)) {
                looks++;
                if (t.versions().containsKey(key)) {
                    return looks;
                }
            }
        }
        return looks;
    }

    // ---- the tape and the texts

    int feed(int a, int b, int c, int d, int e) {
        if (s.tape.size() + 20 > 200) {
            return -1;
        }
        for (int word : new int[] {a, b, c, d, e}) {
            for (int i = 3; i >= 0; i--) {
                s.tape.add((word >> 8 * i) & 0xff);
            }
        }
        return s.tape.size();
    }

    int end(int n) {
        if (n < 0 || n > s.tape.size()) {
            return -1;
        }
        s.tape = new ArrayList<>(s.tape.subList(0, n));
        return n;
    }

    private record Token(String text, int place) {
    }

    private static List<Token> tokens(String text) {
        List<Token> all = new ArrayList<>();
        java.util.regex.Matcher m = java.util.regex.Pattern.compile("[a-z]+|[0-9]+|[^ \n]").matcher(text);
        while (m.find()) {
            all.add(new Token(m.group(), m.start()));
        }
        all.add(new Token("", text.length()));
        return all;
    }

    /** The tokens go through states; what may come next is told by the state's name and a count. */
    private int[] faultOf(String text, Idx x) {
        String state = "start";
        String part = "sum";
        int terms = 0;
        List<Term> sum = new ArrayList<>();
        List<Term> left = null;
        char sign = ' ';
        int number = 0;
        for (Token t : tokens(text)) {
            String w = t.text();
            boolean isNumber = w.matches("[0-9]{1,2}");
            boolean isColumn = w.matches("[abcd]");
            if (state.equals("start") && w.equals("by")) {
                state = "term";
                continue;
            }
            if (state.equals("term") && (isNumber || isColumn)) {
                if (terms == 4 || part.equals("left") && x.atoms.size() == 3) {
                    return new int[] {2, t.place()};
                }
                terms++;
                number = isNumber ? Integer.parseInt(w) : 1;
                if (isColumn) {
                    sum.add(new Term(1, w.charAt(0) - 'a'));
                }
                state = isNumber ? "number" : "behind";
                continue;
            }
            if (state.equals("number") && w.equals("*")) {
                state = "factor";
                continue;
            }
            if (state.equals("factor") && isColumn) {
                sum.add(new Term(number, w.charAt(0) - 'a'));
                state = "behind";
                continue;
            }
            if (state.equals("number")) {
                sum.add(new Term(number, -1));
                state = "behind";
            }
            if (state.equals("behind") && w.equals("+")) {
                state = "term";
                continue;
            }
            boolean closes = state.equals("behind") && !part.equals("left");
            if (state.equals("behind") && part.equals("left") && w.matches("[<=>]")) {
                left = sum;
                sign = w.charAt(0);
                part = "right";
            } else if (closes && part.equals("sum") && w.equals("where")) {
                x.sum = sum;
                part = "left";
            } else if (closes && part.equals("right") && w.equals("and")) {
                x.atoms.add(new Atom(left, sign, sum));
                part = "left";
            } else {
                if (closes && part.equals("sum")) {
                    x.sum = sum;
                } else if (closes) {
                    x.atoms.add(new Atom(left, sign, sum));
                }
                boolean ends = closes || state.equals("unique") || state.equals("mends");
                if (ends && w.isEmpty()) {
                    return new int[] {0, -1};
                }
                if (closes && w.equals("unique")) {
                    x.unique = true;
                    state = "unique";
                    continue;
                }
                if ((closes || state.equals("unique")) && w.equals("mends")) {
                    x.mends = true;
                    state = "mends";
                    continue;
                }
                return new int[] {1, t.place()};
            }
            state = "term";
            terms = 0;
            sum = new ArrayList<>();
        }
        throw new IllegalStateException("a text without an end");
    }

    int define() {
        StringBuilder text = new StringBuilder();
        s.tape.forEach(b -> text.append((char) (int) b));
        s.tape = new ArrayList<>();
        s.fault = 0;
        s.place = -1;
        int free = Arrays.asList(s.indexes).indexOf(null);
        if (free < 0) {
            return -2;
        }
        Idx x = new Idx();
        int[] fault = faultOf(text.toString(), x);
        s.fault = fault[0];
        s.place = fault[1];
        if (s.fault != 0) {
            return -1;
        }
        x.built = s.stamp == 0;
        x.begun = s.stamp;
        s.indexes[free] = x;
        return free;
    }

    int fault(int what) {
        return what == 0 ? s.fault : what == 1 ? s.place : -1;
    }

    boolean set(int what, int number) {
        if (what == 0 && number >= 2 && number <= 12) {
            s.room = number;
            return true;
        }
        if (what == 1 && number >= 2 && number <= 4) {
            s.fan = number;
            return true;
        }
        return false;
    }

    boolean mend(int index, boolean is) {
        Idx x = find(index);
        if (x != null) {
            x.mends = is;
        }
        return x != null;
    }

    // ---- writes

    private static boolean in(int n, int below) {
        return n >= 0 && n < below;
    }

    private static boolean isRow(int a, int b, int c, int d) {
        return in(a, 16) && in(b, 16) && in(c, 16) && in(d, 16);
    }

    int put(int key, int a, int b, int c, int d) {
        return !in(key, 32) || !isRow(a, b, c, d) ? -1 : putRow(0, key, List.of(a, b, c, d));
    }

    int change(int key, int column, int number) {
        if (!in(key, 32) || !in(column, 4) || !in(number, 16)) {
            return -1;
        }
        if (!there(key)) {
            s.refused++;
            s.why = new int[] {1, key, -1, -1, -1, -1};
            return -1;
        }
        List<Integer> row = new ArrayList<>(latest(key).row());
        row.set(column, number);
        return putRow(1, key, row);
    }

    int remove(int key) {
        return !in(key, 32) ? -1 : write(new Version(key, null, s.stamp + 1));
    }

    private int putRow(int which, int key, List<Integer> row) {
        for (int i = 0; i < 4; i++) {
            Idx x = built(i);
            if (x != null && x.unique && x.wants(row)) {
                int value = x.value(row);
                for (int other : asked(x, value, value)) {
                    if (other != key) {
                        s.refused++;
                        s.why = new int[] {which, key, i, value, other, latest(other).stamp()};
                        return -1;
                    }
                }
            }
        }
        return write(new Version(key, row, s.stamp + 1));
    }

    private int write(Version v) {
        s.stamp++;
        s.writes++;
        s.memory.put(v.key(), v);
        for (Idx x : s.indexes) {
            if (x != null && !v.gone() && x.wants(v.row())) {
                x.memory.add(new Entry(x.value(v.row()), v.key(), v.stamp()));
                x.memory.sort(null);
            }
        }
        if (s.writes >= s.room) {
            flush();
        }
        for (int i = 0; i < 4; i++) {
            if (s.indexes[i] != null && s.indexes[i].all().size() > 96) {
                repair(i);
            }
        }
        return v.stamp();
    }

    int load(int seed, int n) {
        if (n < 1 || n > 20) {
            return -1;
        }
        int before = s.refused;
        int[] x = {seed};
        for (int i = 0; i < n; i++) {
            int which = draw(x, 8);
            int key = draw(x, 32);
            if (which == 0) {
                remove(key);
            } else if (which == 1) {
                int column = draw(x, 4);
                int number = draw(x, 16);
                change(key, column, number);
            } else {
                int a = draw(x, 16);
                int b = draw(x, 16);
                int c = draw(x, 16);
                int d = draw(x, 16);
                put(key, a, b, c, d);
            }
        }
        return s.refused - before;
    }

    private static int draw(int[] x, int n) {
        long next = ((x[0] & 0xffffffffL) * 1103515245L + 12345L) & 0xffffffffL;
        x[0] = (int) next;
        return (int) ((next >> 16) % n);
    }

    // ---- runs

    boolean flush() {
        if (s.writes == 0) {
            return false;
        }
        for (Idx x : s.indexes) {
            if (x != null) {
                List<Entry> kept = new ArrayList<>();
                for (Entry e : x.memory) {
                    if (s.memory.get(e.key()).stamp() <= e.stamp()) {
                        kept.add(e);
                    }
                }
                x.memory = new ArrayList<>();
                if (!kept.isEmpty()) {
                    x.runs.add(0, new EntryRun(kept, 0, s.stamp));
                }
            }
        }
        s.runs.add(0, new TableRun(s.memory, 0, s.stamp - s.writes + 1, s.stamp));
        s.memory = new TreeMap<>();
        s.writes = 0;
        for (int at = alike(null); at >= 0; at = alike(null)) {
            mergeTable(at, s.fan);
        }
        if (s.runs.size() > 20) {
            mergeTable(0, s.runs.size());
        }
        for (Idx x : s.indexes) {
            if (x != null) {
                for (int at = alike(x); at >= 0; at = alike(x)) {
                    mergeIndex(x, at, s.fan);
                }
                if (x.runs.size() > 20) {
                    mergeIndex(x, 0, x.runs.size());
                }
            }
        }
        return true;
    }

    private int alike(Idx x) {
        List<Integer> levels = new ArrayList<>();
        if (x == null) {
            s.runs.forEach(r -> levels.add(r.level()));
        } else {
            x.runs.forEach(r -> levels.add(r.level));
        }
        for (int at = 0; at + s.fan <= levels.size(); at++) {
            if (new HashSet<>(levels.subList(at, at + s.fan)).size() == 1) {
                return at;
            }
        }
        return -1;
    }

    private void mergeTable(int from, int many) {
        merges++;
        boolean oldest = from + many == s.runs.size();
        Integer sure = sure();
        List<TableRun> those = s.runs.subList(from, from + many);
        TreeMap<Integer, Version> all = new TreeMap<>();
        for (TableRun r : those) {
            r.versions().forEach(all::putIfAbsent);
        }
        if (oldest) {
            all.values().removeIf(v -> v.gone() && (sure == null || v.stamp() <= sure));
        }
        int level = those.stream().mapToInt(TableRun::level).max().orElse(0) + 1;
        int least = those.stream().mapToInt(TableRun::from).min().orElse(0);
        int greatest = those.stream().mapToInt(TableRun::to).max().orElse(0);
        those.clear();
        if (!all.isEmpty()) {
            s.runs.add(from, new TableRun(all, level, least, greatest));
        }
    }

    private EntryRun merged(Idx x, List<EntryRun> those) {
        Map<List<Integer>, Entry> greatest = new LinkedHashMap<>();
        for (EntryRun r : those) {
            for (Entry e : r.entries) {
                greatest.merge(List.of(e.value(), e.key()), e, (p, q) -> p.stamp() >= q.stamp() ? p : q);
            }
        }
        List<Entry> all = new ArrayList<>(greatest.values());
        all.sort(null);
        int repaired = those.stream().mapToInt(r -> r.repaired).min().orElse(0);
        if (x.mends) {
            all.removeIf(this::stale);
            repaired = s.stamp;
        }
        return new EntryRun(all, those.stream().mapToInt(r -> r.level).max().orElse(0) + 1, repaired);
    }

    private void mergeIndex(Idx x, int from, int many) {
        List<EntryRun> those = x.runs.subList(from, from + many);
        EntryRun one = merged(x, those);
        those.clear();
        if (!one.entries.isEmpty()) {
            x.runs.add(from, one);
        }
    }

    private static boolean are(int from, int many, int runs) {
        return many >= 2 && from >= 0 && (long) from + many <= runs;
    }

    int merge(int index, int from, int many) {
        if (index == -1) {
            if (!are(from, many, s.runs.size())) {
                return -1;
            }
            mergeTable(from, many);
            return s.runs.size();
        }
        Idx x = find(index);
        if (x == null || !are(from, many, x.runs.size())) {
            return -1;
        }
        mergeIndex(x, from, many);
        return x.runs.size();
    }

    int repair(int index) {
        Idx x = find(index);
        if (x == null) {
            return -1;
        }
        int before = x.all().size();
        List<EntryRun> runs = new ArrayList<>();
        for (EntryRun r : x.runs) {
            List<Entry> kept = new ArrayList<>(r.entries);
            kept.removeIf(this::stale);
            if (!kept.isEmpty()) {
                runs.add(new EntryRun(kept, r.level, s.stamp));
            }
        }
        x.runs = runs;
        return before - x.all().size();
    }

    int build(int index, int n) {
        Idx x = find(index);
        if (x == null || x.built || n < 1 || n > 32) {
            return -1;
        }
        for (int i = 0; i < n && x.along < 32; i++, x.along++) {
            Version v = latest(x.along);
            if (v != null && !v.gone() && x.wants(v.row())) {
                x.aside.add(new Entry(x.value(v.row()), v.key(), v.stamp()));
            }
        }
        if (x.along < 32) {
            return 32 - x.along;
        }
        if (x.unique) {
            for (int value = 0; value <= 6000; value++) {
                List<Integer> keys = asked(x, value, value);
                if (keys.size() > 1) {
                    s.indexes[index] = null;
                    s.clashed++;
                    s.why = new int[] {2, keys.get(1), index, value, keys.get(0), latest(keys.get(0)).stamp()};
                    return -2;
                }
            }
        }
        if (!x.aside.isEmpty()) {
            x.aside.sort(null);
            int level = x.runs.stream().mapToInt(r -> r.level).max().orElse(-1) + 1;
            x.runs.add(new EntryRun(x.aside, level, x.begun));
            x.aside = new ArrayList<>();
        }
        x.built = true;
        return 0;
    }

    boolean drop(int index) {
        if (find(index) == null) {
            return false;
        }
        s.indexes[index] = null;
        return true;
    }

    // ---- what is told

    int row(int key, int what) {
        Version v = in(key, 32) ? latest(key) : null;
        if (v == null) {
            return -1;
        }
        return what == 4 ? v.stamp() : in(what, 4) && !v.gone() ? v.row().get(what) : -1;
    }

    private static int kth(List<Integer> keys, int k) {
        return k == -1 ? keys.size() : in(k, keys.size()) ? keys.get(k) : -2;
    }

    int ask(int index, int low, int high, int k) {
        Idx x = built(index);
        if (x == null) {
            return -2;
        }
        s.cost = new int[4];
        Set<Integer> found = new HashSet<>();
        List<EntryRun> groups = new ArrayList<>(x.runs);
        groups.add(0, null);
        for (EntryRun r : groups) {
            for (Entry e : r == null ? x.memory : r.entries) {
                if (e.value() >= low && e.value() <= high) {
                    s.cost[0]++;
                    if (found.contains(e.key())) {
                        s.cost[2]++;
                    } else {
                        s.cost[3] += looks(e.key(), r);
                        if (stale(e)) {
                            s.cost[1]++;
                        } else {
                            found.add(e.key());
                        }
                    }
                }
            }
        }
        List<Integer> keys = asked(x, low, high);
        if (!found.equals(new HashSet<>(keys))) {
            throw new IllegalStateException("what the entries tell is not what the rows tell");
        }
        return kth(keys, k);
    }

    int cost(int what) {
        return s.cost == null || !in(what, 4) ? -1 : s.cost[what];
    }

    int both(int index, int value, int other, int its, int k) {
        Idx x = built(index);
        Idx y = built(other);
        if (x == null || y == null) {
            return -2;
        }
        TreeSet<Integer> keys = new TreeSet<>(asked(x, value, value));
        keys.retainAll(asked(y, its, its));
        return kth(new ArrayList<>(keys), k);
    }

    int sum(int index, int low, int high, int column) {
        Idx x = built(index);
        if (x == null || !in(column, 4)) {
            return -1;
        }
        return asked(x, low, high).stream().mapToInt(k -> latest(k).row().get(column)).sum();
    }

    int near(int index, int value) {
        Idx x = built(index);
        if (x == null) {
            return -1;
        }
        return asked(x, 0, 9999).stream().min(
                Comparator.<Integer>comparingLong(k -> Math.abs((long) x.value(latest(k).row()) - value))
                        .thenComparingInt(k -> x.value(latest(k).row())).thenComparingInt(k -> k)).orElse(-1);
    }

    int open(int index, int low, int high) {
        Idx x = built(index);
        int free = Arrays.asList(s.cursors).indexOf(null);
        if (x == null || free < 0) {
            return -1;
        }
        Cur c = new Cur();
        c.keys = asked(x, low, high);
        c.holds = new ArrayList<>(s.runs);
        c.holds.addAll(x.runs);
        s.cursors[free] = c;
        return free;
    }

    int next(int cursor) {
        Cur c = in(cursor, 3) ? s.cursors[cursor] : null;
        return c == null || c.at == c.keys.size() ? -1 : c.keys.get(c.at++);
    }

    int close(int cursor) {
        Cur c = in(cursor, 3) ? s.cursors[cursor] : null;
        if (c == null) {
            return -1;
        }
        s.cursors[cursor] = null;
        return c.keys.size() - c.at;
    }

    private int leftOver() {
        IdentityHashMap<Object, Boolean> held = new IdentityHashMap<>();
        for (Cur c : s.cursors) {
            if (c != null) {
                c.holds.forEach(h -> held.put(h, true));
            }
        }
        s.runs.forEach(held::remove);
        for (Idx x : s.indexes) {
            if (x != null) {
                x.runs.forEach(held::remove);
            }
        }
        return held.size();
    }

    private int nextMerges() {
        State before = s;
        s = s.copied();
        merges = 0;
        flush();
        s = before;
        return merges;
    }

    int count(int what) {
        switch (what) {
            case 0: return s.stamp;
            case 1: return s.writes;
            case 2: return s.memory.size();
            case 3: return s.runs.size();
            case 4: return s.runs.stream().mapToInt(r -> r.versions().size()).sum();
            case 5: return (int) java.util.stream.IntStream.range(0, 32).filter(this::there).count();
            case 6: return (int) s.runs.stream().flatMap(r -> r.versions().values().stream())
                    .filter(Version::gone).count();
            case 7: return sure() == null ? -1 : sure();
            case 8: return leftOver();
            case 9: return (int) Arrays.stream(s.cursors).filter(c -> c != null).count();
            case 10: return java.util.stream.IntStream.range(0, 4)
                    .map(i -> s.indexes[i] == null ? 0 : 1 << i).sum();
            case 11: return s.refused;
            case 12: return s.clashed;
            case 13: return nextMerges();
            case 14: return s.tape.size();
            default: return -1;
        }
    }

    int run(int run, int what) {
        if (!in(run, s.runs.size())) {
            return -1;
        }
        TableRun r = s.runs.get(run);
        List<Integer> keys = new ArrayList<>(r.versions().keySet());
        switch (what) {
            case 0: return keys.size();
            case 1: return r.level();
            case 2: return r.from();
            case 3: return r.to();
            case 4: return keys.stream().mapToInt(k -> 1 << k % 8).distinct().sum();
            default: return what >= 10 && what - 10 < keys.size() ? keys.get(what - 10) : -1;
        }
    }

    private int waste(Idx x) {
        List<List<Entry>> groups = new ArrayList<>();
        groups.add(x.memory);
        x.runs.forEach(r -> groups.add(r.entries));
        Set<Entry> ahead = new HashSet<>();
        int waste = 0;
        for (List<Entry> g : groups) {
            for (Entry e : g) {
                waste += stale(e) || ahead.contains(e) ? 1 : 0;
            }
            ahead.addAll(g);
        }
        return waste;
    }

    private int staleOf(List<Entry> entries) {
        return (int) entries.stream().filter(this::stale).count();
    }

    int index(int index, int what) {
        Idx x = find(index);
        if (x == null) {
            return -2;
        }
        if (what >= 100) {
            return what - 100 < x.runs.size() ? x.runs.get(what - 100).repaired : -2;
        }
        if (what >= 60) {
            return what - 60 < x.runs.size() ? x.runs.get(what - 60).level : -2;
        }
        if (what >= 20) {
            return what - 20 < x.runs.size() ? x.runs.get(what - 20).entries.size() : -2;
        }
        switch (what) {
            case 0: return x.built ? 2 : 1;
            case 1: return x.unique ? 1 : 0;
            case 2: return x.mends ? 1 : 0;
            case 3: return x.runs.size();
            case 4: return x.all().size();
            case 5: return staleOf(x.all());
            case 6: return waste(x);
            case 7: return x.built ? 0 : 32 - x.along;
            case 8: return sure(x) == null ? -1 : sure(x);
            case 9: return x.aside.size();
            case 10: case 11: case 12: return x.built ? values(x, what) : -2;
            case 13: return worst(x);
            default: return -2;
        }
    }

    private int values(Idx x, int what) {
        TreeMap<Integer, Integer> many = new TreeMap<>();
        for (int key : asked(x, 0, 9999)) {
            many.merge(x.value(latest(key).row()), 1, Integer::sum);
        }
        if (what == 10) {
            int least = 0;
            while (many.containsKey(least)) {
                least++;
            }
            return least;
        }
        int best = -1;
        for (int value : many.keySet()) {
            best = best < 0 || many.get(value) > many.get(best) ? value : best;
        }
        return what == 11 ? best : best < 0 ? 0 : many.get(best);
    }

    private int worst(Idx x) {
        int worst = -1;
        for (int r = 0; r < x.runs.size(); r++) {
            int most = worst < 0 ? 0 : staleOf(x.runs.get(worst).entries);
            worst = staleOf(x.runs.get(r).entries) > most ? r : worst;
        }
        return worst;
    }

    int entry(int index, int run, int i, int what) {
        Idx x = find(index);
        if (x == null || run < -1 || run >= x.runs.size()) {
            return -2;
        }
        EntryRun r = run < 0 ? null : x.runs.get(run);
        List<Entry> entries = r == null ? x.memory : r.entries;
        if (!in(i, entries.size())) {
            return -2;
        }
        Entry e = entries.get(i);
        switch (what) {
            case 0: return e.value();
            case 1: return e.key();
            case 2: return e.stamp();
            case 3: return stale(e) ? 1 : 0;
            case 4: return looks(e.key(), r);
            default: return -2;
        }
    }

    int value(int index, int a, int b, int c, int d) {
        Idx x = find(index);
        if (x == null || !isRow(a, b, c, d) || !x.wants(List.of(a, b, c, d))) {
            return -1;
        }
        return x.value(List.of(a, b, c, d));
    }

    int why(int level, int what) {
        return in(level, 3) && in(what, 2) ? s.why[2 * level + what] : -1;
    }

    int would(int index, int from, int many) {
        Idx x = find(index);
        if (x == null || !are(from, many, x.runs.size())) {
            return -1;
        }
        return merged(x, x.runs.subList(from, from + many)).entries.size();
    }

    int held(int key) {
        Version v = in(key, 32) ? latest(key) : null;
        if (v == null || !v.gone()) {
            return -1;
        }
        for (int i = 0; i < 4; i++) {
            Idx x = s.indexes[i];
            if (x != null && (x.runs.stream().anyMatch(r -> r.repaired < v.stamp())
                    || !x.built && x.begun < v.stamp())) {
                return i;
            }
        }
        return -1;
    }

    int tried(int seed, int n, int what) {
        if (n < 1 || n > 20) {
            return -1;
        }
        State before = s;
        s = s.copied();
        load(seed, n);
        int answer = -1;
        if (in(what, 14)) {
            answer = count(what);
        } else if (in(what - 20, 4) && s.indexes[what - 20] != null) {
            answer = s.indexes[what - 20].all().size();
        } else if (in(what - 30, 4) && s.indexes[what - 30] != null) {
            answer = waste(s.indexes[what - 30]);
        }
        s = before;
        return answer;
    }

    boolean image(int k) {
        if (!in(k, 3)) {
            return false;
        }
        images[k] = s.copied();
        return true;
    }

    boolean again(int k) {
        if (!in(k, 3) || images[k] == null) {
            return false;
        }
        s = images[k].copied();
        return true;
    }
}
