/** Late indexes of a table: what each method answers is promised in DOC.md, whose words this file uses. */
public final class LateIndexes {
    public static final int NONE = -1;

    /** What is answered for "none such" where NONE is itself an answer. */
    private static final int LACKING = -2;

    private static final int KEYS = 32;
    private static final int COLUMNS = 4;
    private static final int NUMBERS = 16;
    private static final int INDEXES = 4;
    private static final int CURSORS = 3;
    private static final int IMAGES = 3;
    private static final int LOAD_MOST = 20;

    private static final int RUNS_MOST = 20;
    /** A build may leave an INDEX one RUN above RUNS_MOST, and the next FLUSH brings one more. */
    private static final int RUN_SLOTS = 24;
    private static final int ENTRIES_MOST = 96;
    /** A build may bring 32 ENTRIES above ENTRIES_MOST, and the next WRITE one more. */
    private static final int ENTRY_SLOTS = 144;
    private static final int ROOM_LEAST = 2;
    private static final int ROOM_MOST = 12;
    private static final int FAN_LEAST = 2;
    private static final int FAN_MOST = 4;

    /** Stands where else a packed ROW stands. */
    private static final int GONE = -1;

    private static final int PUT = 0;
    private static final int CHANGE = 1;
    private static final int BUILD = 2;
    private static final int REMOVE = 3;

    private static final int FREE = 0;
    private static final int BUILDING = 1;
    private static final int BUILT = 2;

    private static final int TAPE_MOST = 200;
    private static final int FED = 20;
    private static final int NO_TEXT = 1;
    private static final int TOO_MANY = 2;
    private static final int TERMS_MOST = 4;
    private static final int ATOMS_MOST = 3;
    /** A SUM is kept as four factors of COLUMNS and a number behind them. */
    private static final int FORM = 5;

    private static final int END = 0;
    private static final int NUMBER = 1;
    private static final int COLUMN = 2;
    private static final int BY = 3;
    private static final int WHERE = 4;
    private static final int AND = 5;
    private static final int UNIQUE = 6;
    private static final int MENDS = 7;
    private static final int PLUS = 8;
    private static final int TIMES = 9;
    private static final int LESS = 10;
    private static final int SAME = 11;
    private static final int MORE = 12;
    private static final int NO_TOKEN = 13;

    private static final int BLANKS = 0;
    private static final int LETTERS = 1;
    private static final int DIGITS = 2;
    private static final int SIGNS = 3;

    private final Store now;
    private final Store spare;
    private final Table trial;
    private final Reader reader;
    private final Store[] images;

    public LateIndexes() {
        now = new Store();
        spare = new Store();
        trial = new Table();
        reader = new Reader();
        images = new Store[IMAGES];
    }

    public int feed(int a, int b, int c, int d, int e) {
        Tape tape = now.tape;
        if (tape.length + FED > TAPE_MOST) {
            return NONE;
        }
        tape.add(a);
        tape.add(b);
        tape.add(c);
        tape.add(d);
        tape.add(e);
        return tape.length;
    }

    public int end(int n) {
        if (n < 0 || n > now.tape.length) {
            return NONE;
        }
        now.tape.length = n;
        return n;
    }

    public int define() {
        return now.defined(reader);
    }

    public int fault(int what) {
        if (what == 0) {
            return now.fault;
        }
        return what == 1 ? now.place : NONE;
    }

    public boolean set(int what, int number) {
        if (what == 0 && number >= ROOM_LEAST && number <= ROOM_MOST) {
            now.room = number;
            return true;
        }
        if (what == 1 && number >= FAN_LEAST && number <= FAN_MOST) {
            now.fan = number;
            return true;
        }
        return false;
    }

    public boolean mend(int index, boolean is) {
        Index x = now.find(index);
        if (x == null) {
            return false;
        }
        x.mends = is;
        return true;
    }

    public int put(int key, int a, int b, int c, int d) {
        if (!isKey(key) || !isNumber(a) || !isNumber(b) || !isNumber(c) || !isNumber(d)) {
            return NONE;
        }
        return now.write(PUT, key, packed(a, b, c, d));
    }

    public int change(int key, int column, int number) {
        if (!isKey(key) || !isColumn(column) || !isNumber(number)) {
            return NONE;
        }
        return now.write(CHANGE, key, now.changed(key, column, number));
    }

    public int remove(int key) {
        return isKey(key) ? now.write(REMOVE, key, GONE) : NONE;
    }

    public int load(int seed, int n) {
        return isLoad(n) ? now.loaded(seed, n) : NONE;
    }

    public boolean flush() {
        if (now.table.writes == 0) {
            return false;
        }
        now.flushed();
        return true;
    }

    public int merge(int index, int from, int many) {
        if (index == NONE) {
            return now.mergedTable(from, many);
        }
        Index x = now.find(index);
        if (x == null || !x.pile.hasRuns(from, many)) {
            return NONE;
        }
        int level = highest(x.pile.levels, from, many) + 1;
        x.pile.mergeRuns(from, many, level, x.mends, now.table);
        return x.pile.runs;
    }

    public int repair(int index) {
        Index x = now.find(index);
        return x == null ? NONE : x.pile.repairRuns(now.table);
    }

    public int build(int index, int n) {
        Index x = now.find(index);
        if (x == null || x.state != BUILDING || n < 1 || n > KEYS) {
            return NONE;
        }
        return now.goAlong(x, index, n);
    }

    public boolean drop(int index) {
        Index x = now.find(index);
        if (x == null) {
            return false;
        }
        x.state = FREE;
        return true;
    }

    public int row(int key, int what) {
        Versions latest = now.table.latest;
        if (!isKey(key) || !latest.has(key)) {
            return NONE;
        }
        if (what == COLUMNS) {
            return latest.stamps[key];
        }
        return isColumn(what) && latest.isThere(key) ? columnOf(latest.rows[key], what) : NONE;
    }

    public int ask(int index, int low, int high, int k) {
        Index x = now.findBuilt(index);
        if (x == null) {
            return LACKING;
        }
        now.cost.goAlong(x, low, high, now.table);
        int many = now.gather(x, low, high);
        return answered(now.found, many, k);
    }

    public int cost(int what) {
        Cost cost = now.cost;
        if (!cost.asked) {
            return NONE;
        }
        switch (what) {
            case 0: return cost.entries;
            case 1: return cost.stale;
            case 2: return cost.twice;
            case 3: return cost.looks;
            default: return NONE;
        }
    }

    public int both(int index, int value, int other, int its, int k) {
        Index x = now.findBuilt(index);
        Index y = now.findBuilt(other);
        if (x == null || y == null) {
            return LACKING;
        }
        int many = 0;
        for (int key = 0; key < KEYS; key++) {
            if (x.hasFrom(key, value, value) && y.hasFrom(key, its, its)) {
                now.found[many] = key;
                many++;
            }
        }
        return answered(now.found, many, k);
    }

    public int sum(int index, int low, int high, int column) {
        Index x = now.findBuilt(index);
        if (x == null || !isColumn(column)) {
            return NONE;
        }
        int all = 0;
        for (int key = 0; key < KEYS; key++) {
            if (x.hasFrom(key, low, high)) {
                all += columnOf(now.table.latest.rows[key], column);
            }
        }
        return all;
    }

    public int near(int index, int value) {
        Index x = now.findBuilt(index);
        return x == null ? NONE : x.nearest(value);
    }

    public int open(int index, int low, int high) {
        Index x = now.findBuilt(index);
        return x == null ? NONE : now.opened(x, low, high);
    }

    public int next(int cursor) {
        Cursor c = now.findCursor(cursor);
        if (c == null || c.at >= c.many) {
            return NONE;
        }
        c.at++;
        return c.keys[c.at - 1];
    }

    public int close(int cursor) {
        Cursor c = now.findCursor(cursor);
        if (c == null) {
            return NONE;
        }
        c.open = false;
        return c.many - c.at;
    }

    public int count(int what) {
        return what == 14 ? now.tape.length : now.counted(what, trial);
    }

    public int run(int run, int what) {
        Table table = now.table;
        if (run < 0 || run >= table.runs) {
            return NONE;
        }
        Versions versions = table.run[run];
        switch (what) {
            case 0: return versions.size();
            case 1: return table.levels[run];
            case 2: return versions.from;
            case 3: return versions.to;
            case 4: return versions.filter();
            default: return what >= 10 ? versions.keyAt(what - 10) : NONE;
        }
    }

    public int index(int index, int what) {
        Index x = now.find(index);
        if (x == null) {
            return LACKING;
        }
        if (what >= 20) {
            return x.pile.told(what);
        }
        if (what >= 10 && what <= 12) {
            return x.state == BUILT ? x.toldOfValues(what) : LACKING;
        }
        return x.told(what, now.table.latest);
    }

    public int entry(int index, int run, int i, int what) {
        Index x = now.find(index);
        if (x == null || i < 0) {
            return LACKING;
        }
        Table table = now.table;
        if (run == NONE) {
            return i < x.memory.size ? toldEntry(x.memory.items[i], table, table.stamp, what) : LACKING;
        }
        Pile pile = x.pile;
        if (run < 0 || run >= pile.runs || i >= pile.sizeOf(run)) {
            return LACKING;
        }
        return toldEntry(pile.entries[pile.starts[run] + i], table, pile.repaired[run], what);
    }

    public int value(int index, int a, int b, int c, int d) {
        Index x = now.find(index);
        if (x == null || !isNumber(a) || !isNumber(b) || !isNumber(c) || !isNumber(d)) {
            return NONE;
        }
        return x.rule.valueOf(packed(a, b, c, d));
    }

    public int why(int level, int what) {
        if (level < 0 || level > 2 || what < 0 || what > 1) {
            return NONE;
        }
        return now.why[2 * level + what];
    }

    public int would(int index, int from, int many) {
        Index x = now.find(index);
        if (x == null || !x.pile.hasRuns(from, many)) {
            return NONE;
        }
        return x.pile.wouldHave(from, many, x.mends, now.table.latest);
    }

    public int held(int key) {
        return isKey(key) ? now.heldBy(key) : NONE;
    }

    public int tried(int seed, int n, int what) {
        boolean isCount = what >= 0 && what <= 13;
        int index = what >= 30 ? what - 30 : what - 20;
        if (!isLoad(n) || !isCount && now.find(index) == null) {
            return NONE;
        }
        spare.copy(now);
        spare.loaded(seed, n);
        if (isCount) {
            return spare.counted(what, trial);
        }
        Index x = spare.find(index);
        if (x == null) {
            return NONE;
        }
        return what >= 30 ? x.waste(spare.table.latest) : x.size();
    }

    public boolean image(int k) {
        if (k < 0 || k >= IMAGES) {
            return false;
        }
        if (images[k] == null) {
            images[k] = new Store();
        }
        images[k].copy(now);
        return true;
    }

    public boolean again(int k) {
        if (k < 0 || k >= IMAGES || images[k] == null) {
            return false;
        }
        now.copy(images[k]);
        return true;
    }

    private static boolean isKey(int key) {
        return key >= 0 && key < KEYS;
    }

    private static boolean isColumn(int column) {
        return column >= 0 && column < COLUMNS;
    }

    private static boolean isNumber(int number) {
        return number >= 0 && number < NUMBERS;
    }

    private static boolean isLoad(int n) {
        return n >= 1 && n <= LOAD_MOST;
    }

    private static int packed(int a, int b, int c, int d) {
        return a | b << 4 | c << 8 | d << 12;
    }

    private static int columnOf(int row, int column) {
        return row >>> 4 * column & 15;
    }

    /** An ENTRY is one long, so that ENTRIES stand by VALUE, KEY, STAMP as their longs do. */
    private static long entryOf(int value, int key, int stamp) {
        return (long) value << 37 | (long) key << 32 | stamp;
    }

    private static int valueOf(long entry) {
        return (int) (entry >>> 37);
    }

    private static int keyOf(long entry) {
        return (int) (entry >>> 32) & 31;
    }

    private static int stampOf(long entry) {
        return (int) entry;
    }

    private static boolean isStale(long entry, Versions latest) {
        int key = (int) (entry >>> 32) & 31;
        return (latest.keys >>> key & 1) == 0 || latest.stamps[key] != (int) entry;
    }

    private static int toldEntry(long entry, Table table, int repaired, int what) {
        switch (what) {
            case 0: return valueOf(entry);
            case 1: return keyOf(entry);
            case 2: return stampOf(entry);
            case 3: return isStale(entry, table.latest) ? 1 : 0;
            case 4: return table.looks(keyOf(entry), repaired);
            default: return LACKING;
        }
    }

    /** How many were found (k NONE), or the k-th of them. */
    private static int answered(int[] found, int many, int k) {
        if (k == NONE) {
            return many;
        }
        return k >= 0 && k < many && k < found.length ? found[k] : LACKING;
    }

    /** The newest RUN from which on FAN RUNS have one LEVEL, or NONE. */
    private static int alike(int[] levels, int runs, int fan) {
        int same = 0;
        for (int r = 0; r < runs; r++) {
            same = r > 0 && levels[r] == levels[r - 1] ? same + 1 : 1;
            if (same == fan) {
                return r - fan + 1;
            }
        }
        return NONE;
    }

    /** The greatest LEVEL of some RUNS, NONE of no RUNS. */
    private static int highest(int[] levels, int from, int many) {
        int level = NONE;
        for (int r = from; r < from + many; r++) {
            level = Math.max(level, levels[r]);
        }
        return level;
    }

    private static boolean isAmong(int[] ids, int many, int id) {
        for (int i = 0; i < many; i++) {
            if (ids[i] == id) {
                return true;
            }
        }
        return false;
    }

    private static boolean areRuns(int from, int many, int runs) {
        return from >= 0 && many >= 2 && from < runs && many <= runs - from;
    }

    /** The lesser of two STAMPS of which NONE is none. */
    private static int lesser(int a, int b) {
        if (a == NONE || b == NONE) {
            return a == NONE ? b : a;
        }
        return a < b ? a : b;
    }

    /** All that is, and so all that an image has. */
    private static final class Store {
        final Tape tape = new Tape();
        final Table table = new Table();
        final Index[] indexes = new Index[INDEXES];
        final Cursor[] cursors = new Cursor[CURSORS];
        final Cost cost = new Cost();
        final int[] why = new int[6];
        /** What was gathered last: of one call alone, so no image has it. */
        final int[] found = new int[KEYS];
        int room = 4;
        int fan = 2;
        int fault;
        int place = NONE;
        int refused;
        int clashed;
        /** What was drawn last, of one LOAD alone. */
        int seed;

        Store() {
            for (int i = 0; i < INDEXES; i++) {
                indexes[i] = new Index();
            }
            for (int i = 0; i < CURSORS; i++) {
                cursors[i] = new Cursor();
            }
            tell(NONE, NONE);
        }

        void copy(Store other) {
            tape.copy(other.tape);
            table.copy(other.table);
            cost.copy(other.cost);
            for (int i = 0; i < INDEXES; i++) {
                indexes[i].copy(other.indexes[i]);
            }
            for (int i = 0; i < CURSORS; i++) {
                cursors[i].copy(other.cursors[i]);
            }
            System.arraycopy(other.why, 0, why, 0, why.length);
            room = other.room;
            fan = other.fan;
            fault = other.fault;
            place = other.place;
            refused = other.refused;
            clashed = other.clashed;
        }

        Index find(int i) {
            return i < 0 || i >= INDEXES || indexes[i].state == FREE ? null : indexes[i];
        }

        Index findBuilt(int i) {
            return i < 0 || i >= INDEXES || indexes[i].state != BUILT ? null : indexes[i];
        }

        Cursor findCursor(int i) {
            return i < 0 || i >= CURSORS || !cursors[i].open ? null : cursors[i];
        }

        int defined(Reader reader) {
            int number = 0;
            while (number < INDEXES && indexes[number].state != FREE) {
                number++;
            }
            fault = 0;
            place = NONE;
            int answer = LACKING;
            if (number < INDEXES && reader.readIndex(tape, indexes[number])) {
                indexes[number].begin(table);
                answer = number;
            } else if (number < INDEXES) {
                fault = reader.fault;
                place = reader.place();
                answer = NONE;
            }
            tape.length = 0;
            return answer;
        }

        /** A WRITE (PUT, CHANGE, REMOVE) of a ROW, or of GONE: its STAMP, or NONE if it is REFUSED. */
        int write(int which, int key, int row) {
            if (which != REMOVE && isRefused(which, key, row)) {
                refused++;
                return NONE;
            }
            table.write(key, row);
            int stamp = table.stamp;
            for (int i = 0; i < INDEXES; i++) {
                if (indexes[i].state != FREE) {
                    indexes[i].take(key, row, stamp);
                }
            }
            if (table.writes >= room) {
                flushed();
            }
            for (int i = 0; i < INDEXES; i++) {
                if (indexes[i].state != FREE && indexes[i].size() > ENTRIES_MOST) {
                    indexes[i].pile.repairRuns(table);
                }
            }
            return stamp;
        }

        private boolean isRefused(int which, int key, int row) {
            if (row == GONE) {
                tell(which, key);
                return true;
            }
            for (int i = 0; i < INDEXES; i++) {
                Index x = indexes[i];
                int value = x.state == BUILT && x.unique ? x.rule.valueOf(row) : NONE;
                int other = value == NONE ? NONE : x.another(value, key);
                if (other != NONE) {
                    tell(which, key);
                    tellBy(i, value, other);
                    return true;
                }
            }
            return false;
        }

        private void tell(int which, int key) {
            why[0] = which;
            why[1] = key;
            for (int i = 2; i < why.length; i++) {
                why[i] = NONE;
            }
        }

        private void tellBy(int index, int value, int other) {
            why[2] = index;
            why[3] = value;
            why[4] = other;
            why[5] = table.latest.stamps[other];
        }

        /** The ROW of a KEY with one COLUMN changed, GONE if it isn't THERE. */
        int changed(int key, int column, int number) {
            if (!table.latest.isThere(key)) {
                return GONE;
            }
            int shift = 4 * column;
            return table.latest.rows[key] & ~(15 << shift) | number << shift;
        }

        int loaded(int x, int n) {
            int before = refused;
            seed = x;
            for (int i = 0; i < n; i++) {
                int which = drawn(8);
                int key = drawn(KEYS);
                if (which == 0) {
                    write(REMOVE, key, GONE);
                } else if (which == 1) {
                    int column = drawn(COLUMNS);
                    write(CHANGE, key, changed(key, column, drawn(NUMBERS)));
                } else {
                    int a = drawn(NUMBERS);
                    int b = drawn(NUMBERS);
                    int c = drawn(NUMBERS);
                    write(PUT, key, packed(a, b, c, drawn(NUMBERS)));
                }
            }
            return refused - before;
        }

        private int drawn(int below) {
            seed = seed * 1103515245 + 12345;
            return below > 0 ? (seed >>> 16) % below : 0;
        }

        void flushed() {
            for (int i = 0; i < INDEXES; i++) {
                if (indexes[i].state != FREE) {
                    indexes[i].layDown(table);
                }
            }
            table.layDown();
            table.mergeLevels(fan, sure());
            for (int i = 0; i < INDEXES; i++) {
                if (indexes[i].state != FREE) {
                    indexes[i].pile.mergeLevels(fan, indexes[i].mends, table);
                }
            }
        }

        int mergedTable(int from, int many) {
            if (!areRuns(from, many, table.runs)) {
                return NONE;
            }
            table.mergeRuns(from, many, highest(table.levels, from, many) + 1, sure());
            return table.runs;
        }

        /** SURE, NONE if all may go. */
        int sure() {
            int sure = NONE;
            for (int i = 0; i < INDEXES; i++) {
                if (indexes[i].state != FREE) {
                    sure = lesser(sure, indexes[i].sure());
                }
            }
            return sure;
        }

        int heldBy(int key) {
            Versions latest = table.latest;
            if (!latest.has(key) || latest.isThere(key)) {
                return NONE;
            }
            for (int i = 0; i < INDEXES; i++) {
                int sure = indexes[i].state == FREE ? NONE : indexes[i].sure();
                if (sure != NONE && sure < latest.stamps[key]) {
                    return i;
                }
            }
            return NONE;
        }

        int goAlong(Index x, int number, int n) {
            int stop = Math.min(KEYS, x.along + n);
            for (int key = x.along; key < stop; key++) {
                x.keepAside(key, table.latest);
            }
            x.along = stop;
            if (stop < KEYS) {
                return KEYS - stop;
            }
            int value = x.unique ? x.clash() : NONE;
            if (value == NONE) {
                x.finish(table);
                return 0;
            }
            clashed++;
            x.state = FREE;
            int least = x.another(value, NONE);
            tell(BUILD, x.another(value, least));
            tellBy(number, value, least);
            return LACKING;
        }

        /** The KEYS that are ASKED, by VALUE, then by KEY, are found: how many. */
        int gather(Index x, int low, int high) {
            int many = 0;
            for (int key = 0; key < KEYS; key++) {
                if (x.hasFrom(key, low, high)) {
                    int at = many;
                    for (; at > 0 && x.values[found[at - 1]] > x.values[key]; at--) {
                        found[at] = found[at - 1];
                    }
                    found[at] = key;
                    many++;
                }
            }
            return many;
        }

        int opened(Index x, int low, int high) {
            int number = 0;
            while (number < CURSORS && cursors[number].open) {
                number++;
            }
            if (number == CURSORS) {
                return NONE;
            }
            cursors[number].begin(found, gather(x, low, high));
            cursors[number].hold(table.ids, table.runs);
            cursors[number].hold(x.pile.ids, x.pile.runs);
            return number;
        }

        int counted(int what, Table trial) {
            switch (what) {
                case 0: return table.stamp;
                case 1: return table.writes;
                case 2: return table.memory.size();
                case 3: return table.runs;
                case 4: return table.versions();
                case 5: return table.latest.size() - table.latest.gone();
                case 6: return table.gone();
                case 7: return sure();
                case 8: return leftOver();
                case 9: return openCursors();
                case 10: return bits();
                case 11: return refused;
                case 12: return clashed;
                case 13: return nextMerges(trial);
                default: return NONE;
            }
        }

        private int nextMerges(Table trial) {
            if (table.writes == 0) {
                return 0;
            }
            trial.copy(table);
            trial.layDown();
            return trial.mergeLevels(fan, sure());
        }

        private int openCursors() {
            int open = 0;
            for (int i = 0; i < CURSORS; i++) {
                open += cursors[i].open ? 1 : 0;
            }
            return open;
        }

        private int bits() {
            int bits = 0;
            for (int i = 0; i < INDEXES; i++) {
                bits |= indexes[i].state == FREE ? 0 : 1 << i;
            }
            return bits;
        }

        private int leftOver() {
            int over = 0;
            for (int i = 0; i < CURSORS; i++) {
                for (int h = 0; h < cursors[i].held; h++) {
                    int id = cursors[i].holds[h];
                    if (cursors[i].open && !stands(id) && !isHeldAhead(id, i)) {
                        over++;
                    }
                }
            }
            return over;
        }

        private boolean isHeldAhead(int id, int cursor) {
            for (int i = 0; i < cursor; i++) {
                if (cursors[i].open && isAmong(cursors[i].holds, cursors[i].held, id)) {
                    return true;
                }
            }
            return false;
        }

        private boolean stands(int id) {
            boolean does = isAmong(table.ids, table.runs, id);
            for (int i = 0; i < INDEXES && !does; i++) {
                Index x = indexes[i];
                does = x.state != FREE && isAmong(x.pile.ids, x.pile.runs, id);
            }
            return does;
        }
    }

    private static final class Tape {
        final int[] bytes = new int[TAPE_MOST];
        int length;

        void add(int four) {
            for (int shift = 24; shift >= 0 && length < TAPE_MOST; shift -= 8) {
                bytes[length] = four >>> shift & 255;
                length++;
            }
        }

        void copy(Tape other) {
            length = other.length;
            System.arraycopy(other.bytes, 0, bytes, 0, length);
        }
    }

    /** Reads the text of an INDEX, split into TOKENS first: the first that does not fit is the FAULT. */
    private static final class Reader {
        final int[] kinds = new int[TAPE_MOST + 1];
        final int[] starts = new int[TAPE_MOST + 1];
        /** Of a NUMBER what it is, of a COLUMN which. */
        final int[] numbers = new int[TAPE_MOST + 1];
        /** The TOKEN that is next. */
        int at;
        int fault;

        boolean readIndex(Tape tape, Index x) {
            split(tape.bytes, tape.length);
            at = 0;
            fault = 0;
            x.rule.clear();
            if (!passes(BY)) {
                return fails(NO_TEXT);
            }
            if (!readSum(x.rule, 0)) {
                return false;
            }
            if (passes(WHERE) && !readAtoms(x.rule)) {
                return false;
            }
            x.unique = passes(UNIQUE);
            x.mends = passes(MENDS);
            return kinds[at] == END || fails(NO_TEXT);
        }

        /** The place of the FAULT. */
        int place() {
            return starts[at];
        }

        private boolean fails(int kind) {
            fault = kind;
            return false;
        }

        /** Goes on behind the next TOKEN (never END), if it is of a kind. */
        private boolean passes(int kind) {
            if (kinds[at] != kind) {
                return false;
            }
            at++;
            return true;
        }

        private boolean readAtoms(Rule rule) {
            for (int atom = 0; atom < ATOMS_MOST; atom++) {
                if (!readSum(rule, 2 * atom + 1)) {
                    return false;
                }
                rule.signs[atom] = kinds[at];
                rule.atoms = atom + 1;
                if (!passes(LESS) && !passes(SAME) && !passes(MORE)) {
                    return fails(NO_TEXT);
                }
                if (!readSum(rule, 2 * atom + 2)) {
                    return false;
                }
                if (!passes(AND)) {
                    return true;
                }
            }
            return fails(beginsTerm() ? TOO_MANY : NO_TEXT);
        }

        private boolean readSum(Rule rule, int form) {
            for (int term = 0; term < TERMS_MOST; term++) {
                if (!readTerm(rule, form)) {
                    return fails(NO_TEXT);
                }
                if (!passes(PLUS)) {
                    return true;
                }
            }
            return fails(beginsTerm() ? TOO_MANY : NO_TEXT);
        }

        private boolean beginsTerm() {
            return kinds[at] == NUMBER || kinds[at] == COLUMN;
        }

        private boolean readTerm(Rule rule, int form) {
            int factor = 1;
            if (kinds[at] == NUMBER) {
                factor = numbers[at];
                at++;
                if (!passes(TIMES)) {
                    rule.add(form, COLUMNS, factor);
                    return true;
                }
            }
            if (kinds[at] != COLUMN) {
                return false;
            }
            rule.add(form, numbers[at], factor);
            at++;
            return true;
        }

        private void split(int[] text, int length) {
            int tokens = 0;
            for (int i = 0; i < length; i++) {
                int sort = sortOf(text[i]);
                boolean goesOn = i > 0 && sort != SIGNS && sort == sortOf(text[i - 1]);
                if (sort != BLANKS && !goesOn) {
                    int end = i + 1;
                    while (end < length && sort != SIGNS && sort == sortOf(text[end])) {
                        end++;
                    }
                    starts[tokens] = i;
                    name(tokens, sort, text, end);
                    tokens++;
                }
            }
            starts[tokens] = length;
            kinds[tokens] = END;
        }

        private void name(int token, int sort, int[] text, int end) {
            int start = starts[token];
            numbers[token] = 0;
            if (sort == LETTERS) {
                kinds[token] = word(text, start, end);
                numbers[token] = text[start] - 'a';
            } else if (sort == SIGNS) {
                kinds[token] = sign(text[start]);
            } else {
                kinds[token] = end - start > 2 ? NO_TOKEN : NUMBER;
                for (int i = start; i < end && end - start <= 2; i++) {
                    numbers[token] = numbers[token] * 10 + text[i] - '0';
                }
            }
        }

        private static int sortOf(int one) {
            if (one >= 'a' && one <= 'z') {
                return LETTERS;
            }
            if (one >= '0' && one <= '9') {
                return DIGITS;
            }
            return one == ' ' || one == '\n' ? BLANKS : SIGNS;
        }

        private static int word(int[] text, int start, int end) {
            if (end - start == 1 && text[start] - 'a' < COLUMNS) {
                return COLUMN;
            }
            if (isWord(text, start, end, "by")) {
                return BY;
            }
            if (isWord(text, start, end, "where")) {
                return WHERE;
            }
            if (isWord(text, start, end, "and")) {
                return AND;
            }
            if (isWord(text, start, end, "unique")) {
                return UNIQUE;
            }
            return isWord(text, start, end, "mends") ? MENDS : NO_TOKEN;
        }

        private static boolean isWord(int[] text, int start, int end, String word) {
            boolean is = end - start == word.length();
            for (int i = 0; i < word.length() && is; i++) {
                is = text[start + i] == word.charAt(i);
            }
            return is;
        }

        private static int sign(int one) {
            switch (one) {
                case '+': return PLUS;
                case '*': return TIMES;
                case '<': return LESS;
                case '=': return SAME;
                case '>': return MORE;
                default: return NO_TOKEN;
            }
        }
    }

    /** The SUM and the ATOMS of an INDEX: form 0 is of its VALUE, two more are of each ATOM. */
    private static final class Rule {
        final int[] forms = new int[FORM * (2 * ATOMS_MOST + 1)];
        final int[] signs = new int[ATOMS_MOST];
        int atoms;

        void clear() {
            for (int i = 0; i < forms.length; i++) {
                forms[i] = 0;
            }
            atoms = 0;
        }

        void copy(Rule other) {
            System.arraycopy(other.forms, 0, forms, 0, forms.length);
            System.arraycopy(other.signs, 0, signs, 0, signs.length);
            atoms = other.atoms;
        }

        void add(int form, int column, int factor) {
            forms[FORM * form + column] += factor;
        }

        /** The VALUE of a ROW, NONE if it is not WANTED. */
        int valueOf(int row) {
            for (int atom = 0; atom < atoms; atom++) {
                int left = reckoned(2 * atom + 1, row);
                int right = reckoned(2 * atom + 2, row);
                boolean holds = signs[atom] == LESS ? left < right
                        : signs[atom] == MORE ? left > right : left == right;
                if (!holds) {
                    return NONE;
                }
            }
            return reckoned(0, row);
        }

        private int reckoned(int form, int row) {
            int all = forms[FORM * form + COLUMNS];
            for (int column = 0; column < COLUMNS; column++) {
                all += forms[FORM * form + column] * columnOf(row, column);
            }
            return all;
        }
    }

    /** VERSIONS, one of a KEY at most: those of a MEMORY, of a RUN, or the LATEST ones. */
    private static final class Versions {
        final int[] rows = new int[KEYS];
        final int[] stamps = new int[KEYS];
        /** The KEYS that have a VERSION here, as bits. */
        int keys;
        int from;
        int to;

        void copy(Versions other) {
            System.arraycopy(other.rows, 0, rows, 0, KEYS);
            System.arraycopy(other.stamps, 0, stamps, 0, KEYS);
            keys = other.keys;
            from = other.from;
            to = other.to;
        }

        boolean has(int key) {
            return (keys >>> key & 1) != 0;
        }

        boolean isThere(int key) {
            return has(key) && rows[key] != GONE;
        }

        void keep(int key, int row, int stamp) {
            rows[key] = row;
            stamps[key] = stamp;
            keys |= 1 << key;
        }

        void forget(int key) {
            keys &= ~(1 << key);
        }

        int size() {
            return Integer.bitCount(keys);
        }

        int gone() {
            int gone = 0;
            for (int key = 0; key < KEYS; key++) {
                gone += has(key) && rows[key] == GONE ? 1 : 0;
            }
            return gone;
        }

        int filter() {
            return (keys | keys >>> 8 | keys >>> 16 | keys >>> 24) & 255;
        }

        int keyAt(int i) {
            int left = i;
            for (int key = 0; key < KEYS; key++) {
                if (has(key)) {
                    if (left == 0) {
                        return key;
                    }
                    left--;
                }
            }
            return NONE;
        }

        void takeOlder(Versions older) {
            for (int key = 0; key < KEYS; key++) {
                if (older.has(key) && !has(key)) {
                    keep(key, older.rows[key], older.stamps[key]);
                }
            }
            from = Math.min(from, older.from);
            to = Math.max(to, older.to);
        }
    }

    /** The TABLE: its MEMORY, its RUNS, and, so that nothing is searched for, the LATEST of each KEY. */
    private static final class Table {
        final Versions memory = new Versions();
        final Versions latest = new Versions();
        /** Those behind the last RUN are spare ones. */
        final Versions[] run = new Versions[RUN_SLOTS];
        final int[] levels = new int[RUN_SLOTS];
        final int[] ids = new int[RUN_SLOTS];
        int runs;
        int stamp;
        int writes;
        int made;

        Table() {
            for (int r = 0; r < RUN_SLOTS; r++) {
                run[r] = new Versions();
            }
        }

        void copy(Table other) {
            memory.copy(other.memory);
            latest.copy(other.latest);
            for (int r = 0; r < other.runs; r++) {
                run[r].copy(other.run[r]);
                levels[r] = other.levels[r];
                ids[r] = other.ids[r];
            }
            runs = other.runs;
            stamp = other.stamp;
            writes = other.writes;
            made = other.made;
        }

        /** A RUN, of the TABLE or of an INDEX, is known by a number that no other one ever had. */
        int newId() {
            made++;
            return made;
        }

        void write(int key, int row) {
            stamp++;
            writes++;
            memory.keep(key, row, stamp);
            latest.keep(key, row, stamp);
        }

        /** MEMORY becomes the newest RUN. */
        void layDown() {
            if (runs >= RUN_SLOTS) {
                return;
            }
            Versions newest = run[runs];
            for (int r = runs; r > 0; r--) {
                run[r] = run[r - 1];
                levels[r] = levels[r - 1];
                ids[r] = ids[r - 1];
            }
            newest.copy(memory);
            newest.from = stamp - writes + 1;
            newest.to = stamp;
            run[0] = newest;
            levels[0] = 0;
            ids[0] = newId();
            runs++;
            memory.keys = 0;
            writes = 0;
        }

        /** What is MERGED behind a FLUSH: how many times. */
        int mergeLevels(int fan, int sure) {
            int times = 0;
            int from = alike(levels, runs, fan);
            for (int left = runs; left > 0 && from != NONE; left--) {
                mergeRuns(from, fan, levels[from] + 1, sure);
                times++;
                from = alike(levels, runs, fan);
            }
            if (runs > RUNS_MOST) {
                mergeRuns(0, runs, highest(levels, 0, runs) + 1, sure);
                times++;
            }
            return times;
        }

        void mergeRuns(int from, int many, int level, int sure) {
            Versions one = run[from];
            for (int r = from + 1; r < from + many; r++) {
                one.takeOlder(run[r]);
            }
            if (from + many == runs) {
                forgetGone(one, sure);
            }
            levels[from] = level;
            ids[from] = newId();
            int kept = one.keys == 0 ? 0 : 1;
            takeOut(from + kept, many - kept);
        }

        private void forgetGone(Versions oldest, int sure) {
            for (int key = 0; key < KEYS; key++) {
                int its = oldest.stamps[key];
                if (oldest.has(key) && oldest.rows[key] == GONE && (sure == NONE || its <= sure)) {
                    oldest.forget(key);
                    if (latest.stamps[key] == its) {
                        latest.forget(key);
                    }
                }
            }
        }

        private void takeOut(int from, int many) {
            for (int r = from; r < runs - many; r++) {
                Versions spare = run[r];
                run[r] = run[r + many];
                run[r + many] = spare;
                levels[r] = levels[r + many];
                ids[r] = ids[r + many];
            }
            runs -= many;
        }

        int looks(int key, int repaired) {
            int looks = 1;
            boolean found = memory.has(key);
            for (int r = 0; r < runs && !found; r++) {
                if (run[r].to > repaired && (run[r].filter() >>> (key & 7) & 1) != 0) {
                    looks++;
                    found = run[r].has(key);
                }
            }
            return looks;
        }

        int versions() {
            int all = 0;
            for (int r = 0; r < runs; r++) {
                all += run[r].size();
            }
            return all;
        }

        int gone() {
            int all = 0;
            for (int r = 0; r < runs; r++) {
                all += run[r].gone();
            }
            return all;
        }
    }

    /** ENTRIES as they stand. */
    private static final class Entries {
        final long[] items;
        int size;

        Entries(int most) {
            items = new long[Math.max(most, 0)];
        }

        void copy(Entries other) {
            size = Math.min(other.size, items.length);
            System.arraycopy(other.items, 0, items, 0, size);
        }

        void add(long entry) {
            if (size >= items.length) {
                return;
            }
            int at = size;
            for (; at > 0 && items[at - 1] > entry; at--) {
                items[at] = items[at - 1];
            }
            items[at] = entry;
            size++;
        }
    }

    /** The RUNS of an INDEX: their ENTRIES lie one RUN behind the other, the newest one first. */
    private static final class Pile {
        final long[] entries = new long[ENTRY_SLOTS];
        /** Where each RUN starts, and behind them where the last one ends. */
        final int[] starts = new int[RUN_SLOTS + 1];
        final int[] levels = new int[RUN_SLOTS];
        final int[] repaired = new int[RUN_SLOTS];
        final int[] ids = new int[RUN_SLOTS];
        int runs;

        void copy(Pile other) {
            runs = other.runs;
            System.arraycopy(other.entries, 0, entries, 0, other.size());
            System.arraycopy(other.starts, 0, starts, 0, runs + 1);
            System.arraycopy(other.levels, 0, levels, 0, runs);
            System.arraycopy(other.repaired, 0, repaired, 0, runs);
            System.arraycopy(other.ids, 0, ids, 0, runs);
        }

        boolean hasRuns(int from, int many) {
            return areRuns(from, many, runs);
        }

        int sizeOf(int r) {
            return starts[r + 1] - starts[r];
        }

        int size() {
            return starts[runs];
        }

        /** A RUN of ENTRIES is put in ahead of RUN r (behind all, if r is how many there are). */
        void putIn(int r, Entries its, int level, int repairedAt, int id) {
            int many = its.size;
            int size = size();
            if (many == 0 || runs >= RUN_SLOTS || size + many > ENTRY_SLOTS) {
                return;
            }
            int start = starts[r];
            System.arraycopy(entries, start, entries, start + many, size - start);
            System.arraycopy(its.items, 0, entries, start, many);
            for (int i = runs; i > r; i--) {
                levels[i] = levels[i - 1];
                repaired[i] = repaired[i - 1];
                ids[i] = ids[i - 1];
            }
            for (int i = runs; i >= r; i--) {
                starts[i + 1] = starts[i] + many;
            }
            levels[r] = level;
            repaired[r] = repairedAt;
            ids[r] = id;
            runs++;
        }

        void mergeLevels(int fan, boolean mends, Table table) {
            int from = alike(levels, runs, fan);
            for (int left = runs; left > 0 && from != NONE; left--) {
                mergeRuns(from, fan, levels[from] + 1, mends, table);
                from = alike(levels, runs, fan);
            }
            if (runs > RUNS_MOST) {
                mergeRuns(0, runs, highest(levels, 0, runs) + 1, mends, table);
            }
        }

        void mergeRuns(int from, int many, int level, boolean mends, Table table) {
            int least = leastRepaired(from, many);
            takeOut(from + 1, many - 1);
            sort(from);
            cut(from, keptGreatest(from));
            if (mends) {
                cut(from, keptFresh(from, table.latest));
            }
            levels[from] = level;
            repaired[from] = mends ? table.stamp : least;
            ids[from] = table.newId();
            dropEmpty(from);
        }

        /** REPAIR: how many ENTRIES went. */
        int repairRuns(Table table) {
            int before = size();
            for (int r = runs - 1; r >= 0; r--) {
                cut(r, keptFresh(r, table.latest));
                repaired[r] = table.stamp;
                ids[r] = table.newId();
                dropEmpty(r);
            }
            return before - size();
        }

        int leastRepaired(int from, int many) {
            int least = NONE;
            for (int r = from; r < from + many; r++) {
                least = lesser(least, repaired[r]);
            }
            return least;
        }

        /** How many ENTRIES some RUNS had, were they MERGED now. */
        int wouldHave(int from, int many, boolean mends, Versions latest) {
            int start = starts[from];
            int end = starts[from + many];
            int all = 0;
            for (int i = start; i < end; i++) {
                boolean stays = !mends || !isStale(entries[i], latest);
                for (int j = start; j < end && stays; j++) {
                    boolean isOfSame = entries[i] >>> 32 == entries[j] >>> 32;
                    boolean isGreater = entries[j] > entries[i] || entries[j] == entries[i] && j < i;
                    stays = !isOfSame || !isGreater;
                }
                all += stays ? 1 : 0;
            }
            return all;
        }

        int staleIn(int r, Versions latest) {
            int stale = 0;
            for (int i = starts[r]; i < starts[r + 1]; i++) {
                stale += isStale(entries[i], latest) ? 1 : 0;
            }
            return stale;
        }

        int worst(Versions latest) {
            int worst = NONE;
            int most = 0;
            for (int r = 0; r < runs; r++) {
                int stale = staleIn(r, latest);
                if (stale > most) {
                    most = stale;
                    worst = r;
                }
            }
            return worst;
        }

        int told(int what) {
            if (what >= 20 && what < 60 && what - 20 < runs) {
                return sizeOf(what - 20);
            }
            if (what >= 60 && what < 100 && what - 60 < runs) {
                return levels[what - 60];
            }
            return what >= 100 && what - 100 < runs ? repaired[what - 100] : LACKING;
        }

        private void sort(int r) {
            int start = starts[r];
            for (int i = start + 1; i < starts[r + 1]; i++) {
                long entry = entries[i];
                int at = i;
                for (; at > start && entries[at - 1] > entry; at--) {
                    entries[at] = entries[at - 1];
                }
                entries[at] = entry;
            }
        }

        /** Of one VALUE and KEY the greatest STAMP alone moves ahead in RUN r: where those end. */
        private int keptGreatest(int r) {
            int kept = starts[r];
            int end = starts[r + 1];
            for (int i = kept; i < end; i++) {
                if (i + 1 == end || entries[i] >>> 32 != entries[i + 1] >>> 32) {
                    entries[kept] = entries[i];
                    kept++;
                }
            }
            return kept;
        }

        /** Those that are not STALE move ahead in RUN r: where they end. */
        private int keptFresh(int r, Versions latest) {
            int kept = starts[r];
            for (int i = kept; i < starts[r + 1]; i++) {
                if (!isStale(entries[i], latest)) {
                    entries[kept] = entries[i];
                    kept++;
                }
            }
            return kept;
        }

        /** RUN r ends earlier, what lies behind it moves up. */
        private void cut(int r, int end) {
            int gap = starts[r + 1] - end;
            System.arraycopy(entries, end + gap, entries, end, starts[runs] - end - gap);
            for (int i = r + 1; i <= runs; i++) {
                starts[i] -= gap;
            }
        }

        private void dropEmpty(int r) {
            if (starts[r] == starts[r + 1]) {
                takeOut(r, 1);
            }
        }

        /** RUNS go; what ENTRIES they have falls to the RUN ahead of them. */
        private void takeOut(int from, int many) {
            for (int r = from; r < runs - many; r++) {
                levels[r] = levels[r + many];
                repaired[r] = repaired[r + many];
                ids[r] = ids[r + many];
            }
            for (int r = from; r <= runs - many; r++) {
                starts[r] = starts[r + many];
            }
            runs -= many;
        }
    }

    private static final class Index {
        final Rule rule = new Rule();
        final Entries memory = new Entries(ROOM_MOST);
        final Entries aside = new Entries(KEYS);
        final Pile pile = new Pile();
        /** The VALUE of each KEY's LATEST, NONE if that is not THERE or not WANTED. */
        final int[] values = new int[KEYS];
        int state;
        boolean unique;
        boolean mends;
        int begun;
        int along;

        void copy(Index other) {
            state = other.state;
            if (state == FREE) {
                return;
            }
            rule.copy(other.rule);
            memory.copy(other.memory);
            aside.copy(other.aside);
            pile.copy(other.pile);
            System.arraycopy(other.values, 0, values, 0, KEYS);
            unique = other.unique;
            mends = other.mends;
            begun = other.begun;
            along = other.along;
        }

        void begin(Table table) {
            state = table.stamp == 0 ? BUILT : BUILDING;
            begun = table.stamp;
            along = state == BUILT ? KEYS : 0;
            memory.size = 0;
            aside.size = 0;
            pile.runs = 0;
            for (int key = 0; key < KEYS; key++) {
                values[key] = table.latest.isThere(key) ? rule.valueOf(table.latest.rows[key]) : NONE;
            }
        }

        /** A WRITE comes into MEMORY. */
        void take(int key, int row, int stamp) {
            int value = row == GONE ? NONE : rule.valueOf(row);
            values[key] = value;
            if (value != NONE) {
                memory.add(entryOf(value, key, stamp));
            }
        }

        /** MEMORY becomes the newest RUN; MEMORY of the TABLE must still be there. */
        void layDown(Table table) {
            int kept = 0;
            for (int i = 0; i < memory.size; i++) {
                if (!isStale(memory.items[i], table.memory)) {
                    memory.items[kept] = memory.items[i];
                    kept++;
                }
            }
            memory.size = kept;
            pile.putIn(0, memory, 0, table.stamp, table.newId());
            memory.size = 0;
        }

        void keepAside(int key, Versions latest) {
            if (values[key] != NONE) {
                aside.add(entryOf(values[key], key, latest.stamps[key]));
            }
        }

        /** What is kept aside becomes the oldest RUN. */
        void finish(Table table) {
            int level = highest(pile.levels, 0, pile.runs) + 1;
            pile.putIn(pile.runs, aside, level, begun, table.newId());
            aside.size = 0;
            state = BUILT;
        }

        /** The least VALUE that two KEYS have, or NONE. */
        int clash() {
            int least = NONE;
            for (int key = 0; key < KEYS; key++) {
                int value = values[key];
                if (value != NONE && (least == NONE || value < least) && another(value, key) != NONE) {
                    least = value;
                }
            }
            return least;
        }

        /** The least KEY but one that has a VALUE, or NONE. */
        int another(int value, int but) {
            for (int key = 0; key < KEYS; key++) {
                if (key != but && values[key] == value) {
                    return key;
                }
            }
            return NONE;
        }

        boolean hasFrom(int key, int low, int high) {
            return values[key] != NONE && values[key] >= low && values[key] <= high;
        }

        int nearest(int value) {
            int best = NONE;
            long least = 0;
            for (int key = 0; key < KEYS; key++) {
                long far = Math.abs((long) values[key] - value);
                boolean nearer = best == NONE || far < least || far == least && values[key] < values[best];
                if (values[key] != NONE && nearer) {
                    best = key;
                    least = far;
                }
            }
            return best;
        }

        /** The least REPAIRED of its RUNS, and BEGUN, if it is BUILDING, or NONE. */
        int sure() {
            return lesser(pile.leastRepaired(0, pile.runs), state == BUILDING ? begun : NONE);
        }

        int size() {
            return memory.size + pile.size();
        }

        int told(int what, Versions latest) {
            switch (what) {
                case 0: return state;
                case 1: return unique ? 1 : 0;
                case 2: return mends ? 1 : 0;
                case 3: return pile.runs;
                case 4: return size();
                case 5: return stale(latest);
                case 6: return waste(latest);
                case 7: return KEYS - along;
                case 8: return sure();
                case 9: return aside.size;
                case 13: return pile.worst(latest);
                default: return LACKING;
            }
        }

        /** UNUSED (10), CROWDED (11), and how many have that (12). */
        int toldOfValues(int what) {
            if (what == 10) {
                int value = 0;
                while (value < KEYS && another(value, NONE) != NONE) {
                    value++;
                }
                return value;
            }
            int crowded = NONE;
            int most = 0;
            for (int key = 0; key < KEYS; key++) {
                int many = values[key] == NONE ? 0 : havers(values[key]);
                if (many > most || many == most && many > 0 && values[key] < crowded) {
                    most = many;
                    crowded = values[key];
                }
            }
            return what == 11 ? crowded : most;
        }

        private int havers(int value) {
            int many = 0;
            for (int key = 0; key < KEYS; key++) {
                many += values[key] == value ? 1 : 0;
            }
            return many;
        }

        private int stale(Versions latest) {
            int stale = 0;
            for (int i = 0; i < memory.size; i++) {
                stale += isStale(memory.items[i], latest) ? 1 : 0;
            }
            for (int r = 0; r < pile.runs; r++) {
                stale += pile.staleIn(r, latest);
            }
            return stale;
        }

        int waste(Versions latest) {
            int waste = stale(latest);
            for (int i = 0; i < pile.size(); i++) {
                if (!isStale(pile.entries[i], latest) && isAhead(i)) {
                    waste++;
                }
            }
            return waste;
        }

        /** If an ENTRY of the RUNS stands in MEMORY, or in a newer RUN, too. */
        private boolean isAhead(int at) {
            boolean is = false;
            for (int i = 0; i < memory.size && !is; i++) {
                is = memory.items[i] == pile.entries[at];
            }
            for (int i = 0; i < at && !is; i++) {
                is = pile.entries[i] == pile.entries[at];
            }
            return is;
        }
    }

    private static final class Cursor {
        final int[] keys = new int[KEYS];
        final int[] holds = new int[2 * RUN_SLOTS];
        boolean open;
        int many;
        int at;
        int held;

        void copy(Cursor other) {
            open = other.open;
            many = other.many;
            at = other.at;
            held = other.held;
            System.arraycopy(other.keys, 0, keys, 0, many);
            System.arraycopy(other.holds, 0, holds, 0, held);
        }

        void begin(int[] found, int size) {
            open = true;
            many = size;
            at = 0;
            held = 0;
            System.arraycopy(found, 0, keys, 0, size);
        }

        void hold(int[] ids, int runs) {
            int more = Math.min(runs, holds.length - held);
            System.arraycopy(ids, 0, holds, held, more);
            held += more;
        }
    }

    private static final class Cost {
        boolean asked;
        int entries;
        int stale;
        int twice;
        int looks;
        /** The KEYS that were found, as bits. */
        int found;

        void copy(Cost other) {
            asked = other.asked;
            entries = other.entries;
            stale = other.stale;
            twice = other.twice;
            looks = other.looks;
        }

        void goAlong(Index x, int low, int high, Table table) {
            asked = true;
            entries = 0;
            stale = 0;
            twice = 0;
            looks = 0;
            found = 0;
            for (int i = 0; i < x.memory.size; i++) {
                judge(x.memory.items[i], low, high, table, table.stamp);
            }
            Pile pile = x.pile;
            for (int r = 0; r < pile.runs; r++) {
                for (int i = pile.starts[r]; i < pile.starts[r + 1]; i++) {
                    judge(pile.entries[i], low, high, table, pile.repaired[r]);
                }
            }
        }

        private void judge(long entry, int low, int high, Table table, int repaired) {
            int value = valueOf(entry);
            int key = keyOf(entry);
            if (value < low || value > high) {
                return;
            }
            entries++;
            if ((found >>> key & 1) != 0) {
                twice++;
                return;
            }
            looks += table.looks(key, repaired);
            if (isStale(entry, table.latest)) {
                stale++;
            } else {
                found |= 1 << key;
            }
        }
    }
}
