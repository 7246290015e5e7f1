import java.util.Arrays;

/**
 * Settings of a device: lists of entries with leaves as a schema has them, edited by sessions in
 * copies of their own, merged and checked when they are committed, taken back unless they are
 * confirmed, kept some commits back, and saved so that a power failure leaves an old set or a new
 * one.
 */
public final class SettingsDesk {
    public static final int DONE = 0;
    public static final int CLASH = 1;
    public static final int INVALID = 2;
    public static final int LOCKED = 3;
    public static final int NONE = -1;

    private static final int ROOT = 0;
    private static final int LISTS = 4;
    private static final int LEAVES = 4;
    private static final int RULES = 4;
    private static final int ENTRIES = 6;
    /** A merge brings the entries of two full lists together before they are counted. */
    private static final int ROWS = 2 * ENTRIES;
    private static final int TOP_KEY = 100;
    /** Stands behind every key, so that the least of several next keys is simply the minimum. */
    private static final int NO_KEY = TOP_KEY + 1;
    private static final int OLDER = 8;
    private static final int SESSIONS = 3;
    private static final int RUNNING = 3;
    private static final int SAVED = 4;
    private static final int TOP_TICKS = 1000;
    private static final int TOP_PAGES = 1000;

    private static final int NUMBER = 0;
    private static final int REFERENCE = 1;
    private static final int REQUIRED = 1;
    private static final int UNIQUE = 2;

    private static final int FAULT_CLASH = 0;
    private static final int FAULT_REQUIRED = 1;
    private static final int FAULT_REFERENCE = 2;
    private static final int FAULT_UNIQUE = 3;
    private static final int FAULT_RULE = 4;
    private static final int FAULT_CROWD = 5;

    private static final int ENTRY_ADDED = 1;
    private static final int ENTRY_GONE = 2;
    private static final int LEAF_CHANGED = 3;

    private final Schema schema = new Schema();
    private final Settings running = new Settings();
    private final Settings saved = new Settings();
    private final Settings outcome = new Settings();
    /** The set that was running before change number c stands at c modulo OLDER. */
    private final Settings[] older = new Settings[OLDER];
    private final Session[] sessions = new Session[SESSIONS];
    private final Trouble trouble = new Trouble();
    private int changes = 0;
    private int ticksLeft = 0;
    private int lockOwner = NONE;
    private boolean powerOff = false;
    private int pagesToFailure = NONE;

    public SettingsDesk() {
        for (int i = 0; i < OLDER; i++) {
            older[i] = new Settings();
        }
        for (int s = 0; s < SESSIONS; s++) {
            sessions[s] = new Session();
        }
    }

    public int list() throws IllegalStateException {
        requireOpenSchema();
        if (schema.lists >= LISTS) {
            throw new IllegalStateException("there are as many lists as there may be");
        }
        schema.lists++;
        return schema.lists - 1;
    }

    public int leaf(int list, int kind, int low, int high, int flags)
            throws IllegalStateException, IndexOutOfBoundsException, IllegalArgumentException {
        requireOpenSchema();
        requireList(list);
        if (schema.leaves[list] >= LEAVES) {
            throw new IllegalStateException("the list has as many leaves as it may have");
        }
        if (!schema.allowsLeaf(kind, low, high) || flags < 0 || flags > REQUIRED + UNIQUE) {
            throw new IllegalArgumentException("there can be no such leaf");
        }
        return schema.addLeaf(list, kind, low, high, flags);
    }

    public void standard(int list, int leaf, int value)
            throws IllegalStateException, IndexOutOfBoundsException, IllegalArgumentException {
        requireOpenSchema();
        requireLeaf(list, leaf);
        Leaf made = schema.leafAt(list, leaf);
        if (made.isReference || !made.takes(value)) {
            throw new IllegalArgumentException("the leaf can have no such standard");
        }
        made.hasStandard = true;
        made.standardValue = value;
    }

    public int rule(int list, int a, int value, int b, boolean there)
            throws IllegalStateException, IndexOutOfBoundsException {
        requireOpenSchema();
        if (schema.ruleCount >= RULES) {
            throw new IllegalStateException("there are as many rules as there may be");
        }
        requireLeaf(list, a);
        requireLeaf(list, b);
        return schema.addRule(list, a, value, b, there);
    }

    public boolean ready() throws IllegalStateException {
        requireOpenSchema();
        schema.isReady = true;
        // A trouble of its own: figure() tells of commits alone.
        return new Check(schema, running, new Trouble()).passes();
    }

    public int begin(int s) throws IllegalStateException, IndexOutOfBoundsException {
        requireReady();
        requireSession(s);
        sessions[s].begun = true;
        sessions[s].takeOver(running, running);
        return begunSessions();
    }

    public boolean entry(int s, int list, int key, boolean there)
            throws IllegalStateException, IndexOutOfBoundsException, IllegalArgumentException,
            UnsupportedOperationException {
        requireReady();
        requireSession(s);
        requireList(list);
        requireBegun(s);
        if (list == ROOT || key < 1 || key > TOP_KEY) {
            throw new IllegalArgumentException("there can be no such entry");
        }
        Settings candidate = sessions[s].candidate;
        int row = candidate.rowOf(list, key);
        if (there == (row != NONE)) {
            return false;
        }
        if (!there) {
            candidate.removeEntry(list, row);
            return true;
        }
        if (candidate.counts[list] >= ENTRIES) {
            throw new UnsupportedOperationException("the list has as many entries as it may have");
        }
        candidate.addEntry(list, key);
        return true;
    }

    public void set(int s, int list, int key, int leaf, int value)
            throws IllegalStateException, IndexOutOfBoundsException, IllegalArgumentException {
        int row = requireCandidateRow(s, list, key, leaf);
        if (!schema.leafAt(list, leaf).takes(value)) {
            throw new IllegalArgumentException("the leaf takes no such value");
        }
        sessions[s].candidate.give(row, leaf, value);
    }

    public boolean unset(int s, int list, int key, int leaf)
            throws IllegalStateException, IndexOutOfBoundsException {
        int row = requireCandidateRow(s, list, key, leaf);
        Settings candidate = sessions[s].candidate;
        boolean was = candidate.isGiven(row, leaf);
        candidate.drop(row, leaf);
        return was;
    }

    public int get(int which, int list, int key, int leaf)
            throws IllegalStateException, IndexOutOfBoundsException, UnsupportedOperationException {
        requireReady();
        if (which < 0 || which > SAVED) {
            throw new IndexOutOfBoundsException("there is no such set");
        }
        requireLeaf(list, leaf);
        if (which < SESSIONS) {
            requireBegun(which);
        }
        Settings settings = settingsOf(which);
        int row = settings.rowOf(list, key);
        Leaf made = schema.leafAt(list, leaf);
        if (row == NONE || settings.isNothing(row, leaf, made)) {
            throw new UnsupportedOperationException("there is no such entry, or the leaf is nothing");
        }
        return settings.whatIs(row, leaf, made);
    }

    public boolean lock(int s, boolean takes)
            throws IllegalStateException, IndexOutOfBoundsException {
        requireReady();
        requireSession(s);
        requireBegun(s);
        if (takes && lockOwner == NONE) {
            lockOwner = s;
        } else if (!takes && lockOwner == s) {
            lockOwner = NONE;
        }
        return lockOwner == s;
    }

    public int commit(int s, int ticks)
            throws IllegalStateException, IndexOutOfBoundsException, IllegalArgumentException {
        requireReady();
        requireSession(s);
        requireBegun(s);
        if (ticks < 0 || ticks > TOP_TICKS) {
            throw new IllegalArgumentException("there can be no such number of ticks");
        }
        if (ticksLeft > 0 || (lockOwner != NONE && lockOwner != s)) {
            return LOCKED;
        }
        if (!new Merge(sessions[s], running, outcome, trouble).succeeds()) {
            return CLASH;
        }
        if (!new Check(schema, outcome, trouble).passes()) {
            return INVALID;
        }
        if (changeTo(outcome)) {
            ticksLeft = ticks;
        }
        sessions[s].takeOver(outcome, outcome);
        return DONE;
    }

    public boolean confirm() throws IllegalStateException {
        requireReady();
        boolean waited = ticksLeft > 0;
        ticksLeft = 0;
        return waited;
    }

    public boolean tick() throws IllegalStateException {
        requireReady();
        if (ticksLeft == 0) {
            return false;
        }
        ticksLeft--;
        if (ticksLeft > 0) {
            return false;
        }
        // No other change can come between while a commit waits, so the latest older set is the one.
        return changeTo(olderSet(1));
    }

    public int rollback(int s, int n)
            throws IllegalStateException, IndexOutOfBoundsException, IllegalArgumentException {
        requireReady();
        requireSession(s);
        requireBegun(s);
        if (n < 0 || n > olderCount()) {
            throw new IllegalArgumentException("there are not so many older sets");
        }
        sessions[s].takeOver(n == 0 ? running : olderSet(n), running);
        return olderCount();
    }

    public int diff(int s, int k, int what)
            throws IllegalStateException, IndexOutOfBoundsException {
        requireReady();
        requireSession(s);
        requireBegun(s);
        Difference difference = new Difference(sessions[s].candidate, running, k);
        if (k < 0 || what < 0 || what > 3 || !difference.isThere()) {
            throw new IndexOutOfBoundsException("there is no such difference, or nothing such of it");
        }
        switch (what) {
            case 0:
                return difference.atList;
            case 1:
                return difference.atKey;
            case 2:
                return difference.atLeaf;
            default:
                return difference.kind;
        }
    }

    public int save() throws IllegalStateException {
        requireReady();
        int pages = running.entryCount() + 1;
        if (!writePages(pages)) {
            return NONE;
        }
        saved.copyFrom(running);
        return pages;
    }

    public boolean cut(int n) throws IllegalArgumentException {
        if (n < NONE || n > TOP_PAGES) {
            throw new IllegalArgumentException("there can be no such number of pages");
        }
        if (powerOff) {
            return true;
        }
        pagesToFailure = n;
        if (n == 0) {
            failPower();
        }
        return powerOff;
    }

    public boolean reboot() {
        if (!powerOff) {
            return false;
        }
        powerOff = false;
        changeTo(saved);
        for (int s = 0; s < SESSIONS; s++) {
            sessions[s].begun = false;
        }
        lockOwner = NONE;
        ticksLeft = 0;
        return true;
    }

    public int figure(int what) {
        switch (what) {
            case 0:
                return changes;
            case 1:
                return olderCount();
            case 2:
                return ticksLeft;
            case 3:
                return lockOwner;
            case 4:
                return powerOff ? 1 : 0;
            case 5:
                return trouble.fault;
            case 6:
                return trouble.atList;
            case 7:
                return trouble.atKey;
            case 8:
                return trouble.atPart;
            default:
                return what >= 10 && what - 10 < schema.lists ? running.counts[what - 10] : NONE;
        }
    }

    private void requireOpenSchema() {
        if (powerOff || schema.isReady) {
            throw new IllegalStateException("the power is off, or the schema is ready");
        }
    }

    private void requireReady() {
        if (powerOff || !schema.isReady) {
            throw new IllegalStateException("the power is off, or the schema is not ready");
        }
    }

    private void requireList(int list) {
        if (!schema.hasList(list)) {
            throw new IndexOutOfBoundsException("there is no such list");
        }
    }

    private void requireLeaf(int list, int leaf) {
        if (!schema.hasLeaf(list, leaf)) {
            throw new IndexOutOfBoundsException("there is no such list or leaf");
        }
    }

    private void requireSession(int s) {
        if (s < 0 || s >= SESSIONS) {
            throw new IndexOutOfBoundsException("there is no such session");
        }
    }

    private void requireBegun(int s) {
        if (!sessions[s].begun) {
            throw new IllegalStateException("the session has not begun");
        }
    }

    private int requireCandidateRow(int s, int list, int key, int leaf) {
        requireReady();
        requireSession(s);
        requireLeaf(list, leaf);
        requireBegun(s);
        int row = sessions[s].candidate.rowOf(list, key);
        if (row == NONE) {
            throw new IllegalStateException("the candidate has no such entry");
        }
        return row;
    }

    private int begunSessions() {
        int count = 0;
        for (int s = 0; s < SESSIONS; s++) {
            if (sessions[s].begun) {
                count++;
            }
        }
        return count;
    }

    private Settings settingsOf(int which) {
        if (which == RUNNING) {
            return running;
        }
        return which == SAVED ? saved : sessions[which].candidate;
    }

    /** Each change leaves one older set, so the number of changes tells how many there are. */
    private int olderCount() {
        return Math.min(changes, OLDER);
    }

    private Settings olderSet(int changesAgo) {
        return older[Math.floorMod(changes - changesAgo, OLDER)];
    }

    private boolean changeTo(Settings next) {
        if (running.sameAs(next)) {
            return false;
        }
        older[Math.floorMod(changes, OLDER)].copyFrom(running);
        running.copyFrom(next);
        changes++;
        return true;
    }

    /** Answers whether all pages were written, though the power may be off behind the last. */
    private boolean writePages(int pages) {
        if (pagesToFailure == NONE) {
            return true;
        }
        if (pagesToFailure > pages) {
            pagesToFailure -= pages;
            return true;
        }
        boolean all = pagesToFailure == pages;
        failPower();
        return all;
    }

    private void failPower() {
        powerOff = true;
        pagesToFailure = NONE;
    }

    private static final class Leaf {
        boolean isReference;
        int low;
        int high;
        boolean required;
        boolean unique;
        boolean hasStandard;
        int standardValue;

        boolean takes(int value) {
            return isReference ? value >= 1 && value <= TOP_KEY : value >= low && value <= high;
        }
    }

    private static final class Rule {
        int ofList;
        int a;
        int value;
        int b;
        boolean there;
    }

    private static final class Schema {
        boolean isReady = false;
        int lists = 1;
        final int[] leaves = new int[LISTS];
        final Leaf[] leafTable = new Leaf[LISTS * LEAVES];
        int ruleCount = 0;
        final Rule[] rules = new Rule[RULES];

        Schema() {
            for (int i = 0; i < LISTS * LEAVES; i++) {
                leafTable[i] = new Leaf();
            }
            for (int i = 0; i < RULES; i++) {
                rules[i] = new Rule();
            }
        }

        boolean hasList(int list) {
            return list >= 0 && list < lists;
        }

        boolean hasLeaf(int list, int leaf) {
            return hasList(list) && leaf >= 0 && leaf < leaves[list];
        }

        Leaf leafAt(int list, int leaf) {
            return leafTable[list * LEAVES + leaf];
        }

        boolean allowsLeaf(int kind, int low, int high) {
            if (kind == NUMBER) {
                return low <= high;
            }
            return kind == REFERENCE && low != ROOT && hasList(low);
        }

        int addLeaf(int list, int kind, int low, int high, int flags) {
            int number = leaves[list];
            Leaf made = leafAt(list, number);
            made.isReference = kind == REFERENCE;
            made.low = low;
            made.high = high;
            made.required = (flags & REQUIRED) != 0;
            made.unique = (flags & UNIQUE) != 0;
            leaves[list]++;
            return number;
        }

        int addRule(int list, int a, int value, int b, boolean there) {
            Rule made = rules[ruleCount];
            made.ofList = list;
            made.a = a;
            made.value = value;
            made.b = b;
            made.there = there;
            ruleCount++;
            return ruleCount - 1;
        }
    }

    /**
     * One set. The rows of a list stand together, by rising keys; a row is told by its place among
     * the rows of all lists, and NONE is the row of an entry that is not there. A leaf that is not
     * set has the value 0, so that like settings look alike.
     */
    private static final class Settings {
        final int[] counts = new int[LISTS];
        final int[] keys = new int[LISTS * ROWS];
        final int[] values = new int[LISTS * ROWS * LEAVES];
        /** For each row a bit for each leaf that is set. */
        final int[] given = new int[LISTS * ROWS];

        Settings() {
            counts[ROOT] = 1;
        }

        void copyFrom(Settings other) {
            System.arraycopy(other.counts, 0, counts, 0, LISTS);
            System.arraycopy(other.keys, 0, keys, 0, LISTS * ROWS);
            System.arraycopy(other.values, 0, values, 0, LISTS * ROWS * LEAVES);
            System.arraycopy(other.given, 0, given, 0, LISTS * ROWS);
        }

        /** Takes the root's entry away too: a merge adds that again. */
        void removeAll() {
            Arrays.fill(counts, 0);
        }

        int firstRow(int list) {
            return list * ROWS;
        }

        int endRow(int list) {
            return list * ROWS + counts[list];
        }

        int rowOf(int list, int key) {
            for (int row = firstRow(list); row < endRow(list); row++) {
                if (keys[row] == key) {
                    return row;
                }
            }
            return NONE;
        }

        int keyAfter(int list, int key) {
            for (int row = firstRow(list); row < endRow(list); row++) {
                if (keys[row] > key) {
                    return keys[row];
                }
            }
            return NO_KEY;
        }

        int keyAfterInEither(Settings other, int list, int key) {
            return Math.min(keyAfter(list, key), other.keyAfter(list, key));
        }

        int entryCount() {
            int count = 0;
            for (int list = 0; list < LISTS; list++) {
                count += counts[list];
            }
            return count;
        }

        int addEntry(int list, int key) {
            int row = endRow(list);
            for (; row > firstRow(list) && keys[row - 1] > key; row--) {
                moveRow(row - 1, row);
            }
            counts[list]++;
            keys[row] = key;
            for (int leaf = 0; leaf < LEAVES; leaf++) {
                drop(row, leaf);
            }
            return row;
        }

        void removeEntry(int list, int row) {
            for (int next = row + 1; next < endRow(list); next++) {
                moveRow(next, next - 1);
            }
            counts[list]--;
        }

        void moveRow(int from, int to) {
            keys[to] = keys[from];
            given[to] = given[from];
            System.arraycopy(values, from * LEAVES, values, to * LEAVES, LEAVES);
        }

        /** For a row that was just added, and so has nothing set yet. */
        void copyLeaf(int row, int leaf, Settings other, int otherRow) {
            if (other.isGiven(otherRow, leaf)) {
                give(row, leaf, other.valueAt(otherRow, leaf));
            }
        }

        void give(int row, int leaf, int value) {
            given[row] |= 1 << leaf;
            values[row * LEAVES + leaf] = value;
        }

        void drop(int row, int leaf) {
            given[row] &= ~(1 << leaf);
            values[row * LEAVES + leaf] = 0;
        }

        boolean isGiven(int row, int leaf) {
            return row != NONE && (given[row] & 1 << leaf) != 0;
        }

        int valueAt(int row, int leaf) {
            return row == NONE ? 0 : values[row * LEAVES + leaf];
        }

        boolean isNothing(int row, int leaf, Leaf made) {
            return !isGiven(row, leaf) && !made.hasStandard;
        }

        int whatIs(int row, int leaf, Leaf made) {
            return isGiven(row, leaf) ? valueAt(row, leaf) : made.standardValue;
        }

        boolean sameLeaf(int row, int leaf, Settings other, int otherRow) {
            return isGiven(row, leaf) == other.isGiven(otherRow, leaf)
                    && valueAt(row, leaf) == other.valueAt(otherRow, leaf);
        }

        boolean sameEntry(int row, Settings other, int otherRow) {
            if (row == NONE || otherRow == NONE) {
                return row == otherRow;
            }
            for (int leaf = 0; leaf < LEAVES; leaf++) {
                if (!sameLeaf(row, leaf, other, otherRow)) {
                    return false;
                }
            }
            return true;
        }

        boolean sameAs(Settings other) {
            for (int list = 0; list < LISTS; list++) {
                if (!sameList(list, other)) {
                    return false;
                }
            }
            return true;
        }

        boolean sameList(int list, Settings other) {
            if (counts[list] != other.counts[list]) {
                return false;
            }
            for (int row = firstRow(list); row < endRow(list); row++) {
                if (keys[row] != other.keys[row] || !sameEntry(row, other, row)) {
                    return false;
                }
            }
            return true;
        }
    }

    private static final class Session {
        boolean begun = false;
        final Settings candidate = new Settings();
        final Settings base = new Settings();

        void takeOver(Settings newCandidate, Settings newBase) {
            candidate.copyFrom(newCandidate);
            base.copyFrom(newBase);
        }
    }

    /** Why a commit was not done, as figure() tells it. */
    private static final class Trouble {
        int fault = 0;
        int atList = 0;
        int atKey = 0;
        int atPart = 0;

        void note(int newFault, int list, int key, int part) {
            fault = newFault;
            atList = list;
            atKey = key;
            atPart = part;
        }
    }

    /**
     * Needs no case of its own for a running set that is the base: then each entry of the candidate
     * is either as in running, or changed there alone.
     */
    private static final class Merge {
        final Settings candidate;
        final Settings base;
        final Settings running;
        final Settings outcome;
        final Trouble trouble;

        Merge(Session session, Settings running, Settings outcome, Trouble trouble) {
            this.candidate = session.candidate;
            this.base = session.base;
            this.running = running;
            this.outcome = outcome;
            this.trouble = trouble;
        }

        boolean succeeds() {
            outcome.removeAll();
            for (int list = 0; list < LISTS; list++) {
                if (!mergesList(list)) {
                    return false;
                }
            }
            return true;
        }

        /** A key that the base alone has comes to nothing, so it is not looked for. */
        boolean mergesList(int list) {
            int key = candidate.keyAfterInEither(running, list, NONE);
            for (int step = 0; step < ROWS && key != NO_KEY; step++) {
                if (!mergesEntry(list, key)) {
                    return false;
                }
                key = candidate.keyAfterInEither(running, list, key);
            }
            return true;
        }

        boolean mergesEntry(int list, int key) {
            int mine = candidate.rowOf(list, key);
            int old = base.rowOf(list, key);
            int theirs = running.rowOf(list, key);
            if (candidate.sameEntry(mine, base, old)) {
                takeEntry(list, key, running, theirs);
                return true;
            }
            if (running.sameEntry(theirs, base, old)) {
                takeEntry(list, key, candidate, mine);
                return true;
            }
            if (mine == NONE || theirs == NONE) {
                trouble.note(FAULT_CLASH, list, key, NONE);
                return false;
            }
            return mergesLeaves(list, key, mine, old, theirs);
        }

        void takeEntry(int list, int key, Settings from, int fromRow) {
            if (fromRow == NONE) {
                return;
            }
            int row = outcome.addEntry(list, key);
            for (int leaf = 0; leaf < LEAVES; leaf++) {
                outcome.copyLeaf(row, leaf, from, fromRow);
            }
        }

        boolean mergesLeaves(int list, int key, int mine, int old, int theirs) {
            int row = outcome.addEntry(list, key);
            for (int leaf = 0; leaf < LEAVES; leaf++) {
                if (candidate.sameLeaf(mine, leaf, base, old)) {
                    outcome.copyLeaf(row, leaf, running, theirs);
                } else if (running.sameLeaf(theirs, leaf, base, old)
                        || running.sameLeaf(theirs, leaf, candidate, mine)) {
                    outcome.copyLeaf(row, leaf, candidate, mine);
                } else {
                    trouble.note(FAULT_CLASH, list, key, leaf);
                    return false;
                }
            }
            return true;
        }
    }

    /** Looks for the first fault of a set, and notes it. */
    private static final class Check {
        final Schema schema;
        final Settings settings;
        final Trouble trouble;

        Check(Schema schema, Settings settings, Trouble trouble) {
            this.schema = schema;
            this.settings = settings;
            this.trouble = trouble;
        }

        boolean passes() {
            if (isCrowded()) {
                return false;
            }
            for (int list = 0; list < schema.lists; list++) {
                for (int row = settings.firstRow(list); row < settings.endRow(list); row++) {
                    if (lacksLeaf(list, row) || pointsNowhere(list, row)
                            || repeatsLeaf(list, row) || breaksRule(list, row)) {
                        return false;
                    }
                }
            }
            return true;
        }

        boolean isCrowded() {
            for (int list = 0; list < schema.lists; list++) {
                if (settings.counts[list] > ENTRIES) {
                    trouble.note(FAULT_CROWD, list, NONE, NONE);
                    return true;
                }
            }
            return false;
        }

        boolean isNothing(int list, int row, int leaf) {
            return settings.isNothing(row, leaf, schema.leafAt(list, leaf));
        }

        int whatIs(int list, int row, int leaf) {
            return settings.whatIs(row, leaf, schema.leafAt(list, leaf));
        }

        boolean lacksLeaf(int list, int row) {
            for (int leaf = 0; leaf < schema.leaves[list]; leaf++) {
                if (schema.leafAt(list, leaf).required && isNothing(list, row, leaf)) {
                    trouble.note(FAULT_REQUIRED, list, settings.keys[row], leaf);
                    return true;
                }
            }
            return false;
        }

        boolean pointsNowhere(int list, int row) {
            for (int leaf = 0; leaf < schema.leaves[list]; leaf++) {
                Leaf made = schema.leafAt(list, leaf);
                if (made.isReference && settings.isGiven(row, leaf)
                        && settings.rowOf(made.low, settings.valueAt(row, leaf)) == NONE) {
                    trouble.note(FAULT_REFERENCE, list, settings.keys[row], leaf);
                    return true;
                }
            }
            return false;
        }

        boolean repeatsLeaf(int list, int row) {
            for (int leaf = 0; leaf < schema.leaves[list]; leaf++) {
                if (schema.leafAt(list, leaf).unique && isBefore(list, row, leaf)) {
                    trouble.note(FAULT_UNIQUE, list, settings.keys[row], leaf);
                    return true;
                }
            }
            return false;
        }

        boolean isBefore(int list, int row, int leaf) {
            if (isNothing(list, row, leaf)) {
                return false;
            }
            int value = whatIs(list, row, leaf);
            for (int other = settings.firstRow(list); other < row; other++) {
                if (!isNothing(list, other, leaf) && whatIs(list, other, leaf) == value) {
                    return true;
                }
            }
            return false;
        }

        boolean breaksRule(int list, int row) {
            for (int number = 0; number < schema.ruleCount; number++) {
                Rule rule = schema.rules[number];
                if (rule.ofList == list && isBroken(rule, row)) {
                    trouble.note(FAULT_RULE, list, settings.keys[row], number);
                    return true;
                }
            }
            return false;
        }

        boolean isBroken(Rule rule, int row) {
            return !isNothing(rule.ofList, row, rule.a)
                    && whatIs(rule.ofList, row, rule.a) == rule.value
                    && isNothing(rule.ofList, row, rule.b) == rule.there;
        }
    }

    /** Goes through the differences of a candidate from the running set up to the one asked for. */
    private static final class Difference {
        final Settings candidate;
        final Settings running;
        int toPass;
        boolean found = false;
        int atList = 0;
        int atKey = 0;
        int atLeaf = 0;
        int kind = 0;

        Difference(Settings candidate, Settings running, int number) {
            this.candidate = candidate;
            this.running = running;
            this.toPass = number;
        }

        boolean isThere() {
            for (int list = 0; list < LISTS && !found; list++) {
                passList(list);
            }
            return found;
        }

        void passList(int list) {
            int key = candidate.keyAfterInEither(running, list, NONE);
            for (int step = 0; step < ROWS && key != NO_KEY && !found; step++) {
                passEntry(list, key);
                key = candidate.keyAfterInEither(running, list, key);
            }
        }

        void passEntry(int list, int key) {
            int mine = candidate.rowOf(list, key);
            int theirs = running.rowOf(list, key);
            if (mine == NONE) {
                pass(list, key, NONE, ENTRY_GONE);
                return;
            }
            if (theirs == NONE) {
                pass(list, key, NONE, ENTRY_ADDED);
            }
            for (int leaf = 0; leaf < LEAVES; leaf++) {
                if (!candidate.sameLeaf(mine, leaf, running, theirs)) {
                    pass(list, key, leaf, LEAF_CHANGED);
                }
            }
        }

        void pass(int list, int key, int leaf, int newKind) {
            if (toPass == 0) {
                found = true;
                atList = list;
                atKey = key;
                atLeaf = leaf;
                kind = newKind;
            }
            toPass--;
        }
    }
}
