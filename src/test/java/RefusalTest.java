/**
 * Each throw that the document lists: a call that is refused by it and by nothing else, calls that
 * would be refused by two of them, of which the first that is told comes, and for all of them that
 * they change nothing.
 */
public final class RefusalTest {
    private static final int LOWEST = Integer.MIN_VALUE;
    private static final int HIGHEST = Integer.MAX_VALUE;
    private static final int[] WRONG_SESSIONS = {-1, 3, LOWEST, HIGHEST};
    /** Of the schema of Desks.open(), whose lists are 0, 1 and 2. */
    private static final int[] WRONG_LISTS = {-1, 3, 4, LOWEST, HIGHEST};
    /** Of list 1 of Desks.open(), whose leaves are 0, 1 and 2. */
    private static final int[] WRONG_LEAVES = {-1, 3, 4, LOWEST, HIGHEST};

    public static void main(String[] args) {
        list();
        leaf();
        leafOrder();
        standard();
        standardOrder();
        rule();
        ruleOrder();
        ready();
        begin();
        entry();
        entryOrder();
        set();
        setOrder();
        unset();
        unsetOrder();
        get();
        getOrder();
        lock();
        commit();
        commitOrder();
        confirmTickSave();
        rollback();
        rollbackOrder();
        diff();
        diffOrder();
        cut();
        Expect.end();
    }

    /** Refused when the schema is ready, and when the power is off, whatever else is wrong. */
    private static void whileOpenAlone(String what, Twins.Calls call) {
        Twins.refuse(what + ", ready", Desks::readyAlone, call, Expect.STATE);
        Twins.refuse(what + ", ready and busy", Desks::busy, call, Expect.STATE);
        Twins.refuse(what + ", off", Desks::openWithoutPower, call, Expect.STATE);
        Twins.refuse(what + ", off and ready", Desks::withoutPower, call, Expect.STATE);
    }

    /** Refused when the schema is not ready, and when the power is off, whatever else is wrong. */
    private static void whileReadyAlone(String what, Twins.Calls call) {
        Twins.refuse(what + ", new", x -> { }, call, Expect.STATE);
        Twins.refuse(what + ", not ready", Desks::open, call, Expect.STATE);
        Twins.refuse(what + ", not ready and to fail", Desks::openToFail, call, Expect.STATE);
        Twins.refuse(what + ", off", Desks::withoutPower, call, Expect.STATE);
        Twins.refuse(what + ", off and not ready", Desks::openWithoutPower, call,
                Expect.STATE);
    }

    private static void list() {
        Expect.about("2 list, refused");
        whileOpenAlone("list()", x -> x.list());
        Twins.refuse("a fifth list", Desks::full, x -> x.list(), Expect.STATE);
    }

    private static void leaf() {
        Expect.about("3 leaf, refused");
        whileOpenAlone("a leaf", x -> x.leaf(0, 0, 0, 9, 0));
        Twins.refuse("a fifth leaf", Desks::full, x -> x.leaf(1, 0, 0, 9, 0), Expect.STATE);
        for (int list : WRONG_LISTS) {
            Twins.refuse("list " + list, Desks::open, x -> x.leaf(list, 0, 0, 9, 0),
                    Expect.INDEX);
        }
        for (int kind : new int[] {-1, 2, LOWEST, HIGHEST}) {
            Twins.refuse("kind " + kind, Desks::open, x -> x.leaf(0, kind, 1, 9, 0),
                    Expect.ARGUMENT);
        }
        Twins.refuse("low just above high", Desks::open, x -> x.leaf(0, 0, 1, 0, 0),
                Expect.ARGUMENT);
        Twins.refuse("low far above high", Desks::open,
                x -> x.leaf(0, 0, HIGHEST, LOWEST, 0), Expect.ARGUMENT);
        for (int low : new int[] {-1, 0, 3, 4, LOWEST, HIGHEST}) {
            Twins.refuse("a reference to " + low, Desks::open,
                    x -> x.leaf(0, 1, low, 9, 0), Expect.ARGUMENT);
        }
        for (int flags : new int[] {-1, 4, LOWEST, HIGHEST}) {
            Twins.refuse("flags " + flags, Desks::open, x -> x.leaf(0, 0, 0, 9, flags),
                    Expect.ARGUMENT);
            Twins.refuse("a reference, flags " + flags, Desks::open,
                    x -> x.leaf(0, 1, 1, 9, flags), Expect.ARGUMENT);
        }
    }

    private static void leafOrder() {
        Expect.about("3 leaf, refused twice over");
        whileOpenAlone("no list", x -> x.leaf(9, 0, 0, 9, 0));
        whileOpenAlone("another kind", x -> x.leaf(0, 2, 0, 9, 0));
        whileOpenAlone("wrong flags", x -> x.leaf(0, 0, 0, 9, 4));
        Twins.refuse("a fifth leaf, another kind", Desks::full, x -> x.leaf(1, 2, 0, 9, 0),
                Expect.STATE);
        Twins.refuse("a fifth leaf, low above high", Desks::full,
                x -> x.leaf(1, 0, 1, 0, 0), Expect.STATE);
        Twins.refuse("a fifth leaf, a reference to the root", Desks::full,
                x -> x.leaf(1, 1, 0, 0, 0), Expect.STATE);
        Twins.refuse("a fifth leaf, wrong flags", Desks::full,
                x -> x.leaf(1, 0, 0, 9, 4), Expect.STATE);
        Twins.refuse("no list, another kind", Desks::open, x -> x.leaf(3, 2, 0, 9, 0),
                Expect.INDEX);
        Twins.refuse("no list, low above high", Desks::open, x -> x.leaf(3, 0, 1, 0, 0),
                Expect.INDEX);
        Twins.refuse("no list, a reference to no list", Desks::open,
                x -> x.leaf(3, 1, 3, 0, 0), Expect.INDEX);
        Twins.refuse("no list, wrong flags", Desks::open, x -> x.leaf(3, 0, 0, 9, -1),
                Expect.INDEX);
    }

    private static void standard() {
        Expect.about("4 standard, refused");
        whileOpenAlone("a standard", x -> x.standard(0, 0, 1));
        for (int list : WRONG_LISTS) {
            Twins.refuse("list " + list, Desks::open, x -> x.standard(list, 0, 1),
                    Expect.INDEX);
        }
        for (int leaf : WRONG_LEAVES) {
            Twins.refuse("leaf " + leaf, Desks::open, x -> x.standard(1, leaf, 1),
                    Expect.INDEX);
        }
        Twins.refuse("a leaf that another list has", Desks::open, x -> x.standard(0, 1, 1),
                Expect.INDEX);
        Twins.refuse("a list without leaves", Desks::open, x -> x.standard(2, 0, 1),
                Expect.INDEX);
        Twins.refuse("a reference", Desks::open, x -> x.standard(1, 2, 1), Expect.ARGUMENT);
        for (int value : new int[] {-1, 10, LOWEST, HIGHEST}) {
            Twins.refuse("the first one, " + value, Desks::open,
                    x -> x.standard(0, 0, value), Expect.ARGUMENT);
            Twins.refuse("in place of one, " + value, Desks::open,
                    x -> x.standard(1, 1, value), Expect.ARGUMENT);
        }
    }

    private static void standardOrder() {
        Expect.about("4 standard, refused twice over");
        whileOpenAlone("no list", x -> x.standard(9, 0, 1));
        whileOpenAlone("no leaf", x -> x.standard(0, 9, 1));
        whileOpenAlone("a reference", x -> x.standard(1, 2, 1));
        whileOpenAlone("a wrong value", x -> x.standard(0, 0, 10));
        Twins.refuse("no list, a wrong value", Desks::open, x -> x.standard(3, 0, HIGHEST),
                Expect.INDEX);
        Twins.refuse("no leaf, a wrong value", Desks::open, x -> x.standard(1, 3, HIGHEST),
                Expect.INDEX);
    }

    private static void rule() {
        Expect.about("5 rule, refused");
        whileOpenAlone("a rule", x -> x.rule(0, 0, 1, 0, true));
        Twins.refuse("a fifth rule", Desks::full, x -> x.rule(0, 0, 1, 0, true),
                Expect.STATE);
        Twins.refuse("a fifth rule, of another list", Desks::full,
                x -> x.rule(1, 0, 1, 1, false), Expect.STATE);
        for (int list : WRONG_LISTS) {
            Twins.refuse("list " + list, Desks::open, x -> x.rule(list, 0, 1, 0, true),
                    Expect.INDEX);
        }
        for (int leaf : WRONG_LEAVES) {
            Twins.refuse("leaf a " + leaf, Desks::open, x -> x.rule(1, leaf, 1, 0, true),
                    Expect.INDEX);
            Twins.refuse("leaf b " + leaf, Desks::open, x -> x.rule(1, 0, 1, leaf, true),
                    Expect.INDEX);
            Twins.refuse("both " + leaf, Desks::open, x -> x.rule(1, leaf, 1, leaf, false),
                    Expect.INDEX);
        }
        Twins.refuse("leaves that another list has", Desks::open,
                x -> x.rule(0, 1, 1, 2, true), Expect.INDEX);
    }

    private static void ruleOrder() {
        Expect.about("5 rule, refused twice over");
        whileOpenAlone("no list", x -> x.rule(9, 0, 1, 0, true));
        whileOpenAlone("no leaf a", x -> x.rule(0, 9, 1, 0, true));
        whileOpenAlone("no leaf b", x -> x.rule(0, 0, 1, 9, true));
        Twins.refuse("a fifth rule, no list", Desks::full, x -> x.rule(4, 0, 1, 0, true),
                Expect.STATE);
        Twins.refuse("a fifth rule, no leaf a", Desks::full, x -> x.rule(1, 4, 1, 0, true),
                Expect.STATE);
        Twins.refuse("a fifth rule, no leaf b", Desks::full, x -> x.rule(1, 0, 1, 4, true),
                Expect.STATE);
    }

    private static void ready() {
        Expect.about("6 ready, refused");
        whileOpenAlone("ready()", x -> x.ready());
        Twins.refuse("again, when the empty set is not good", Desks::readyAndNotGood,
                x -> x.ready(), Expect.STATE);
    }

    private static void begin() {
        Expect.about("7 begin, refused");
        whileReadyAlone("begin", x -> x.begin(0));
        for (int s : WRONG_SESSIONS) {
            Twins.refuse("session " + s, Desks::busy, x -> x.begin(s), Expect.INDEX);
            Twins.refuse("session " + s + ", none begun", Desks::readyAlone,
                    x -> x.begin(s), Expect.INDEX);
            whileReadyAlone("session " + s, x -> x.begin(s));
        }
    }

    private static void entry() {
        Expect.about("8 entry, refused");
        whileReadyAlone("an entry", x -> x.entry(0, 1, 5, true));
        for (int s : WRONG_SESSIONS) {
            Twins.refuse("session " + s, Desks::busy, x -> x.entry(s, 1, 5, true),
                    Expect.INDEX);
        }
        for (int list : WRONG_LISTS) {
            Twins.refuse("list " + list, Desks::busy, x -> x.entry(0, list, 5, true),
                    Expect.INDEX);
        }
        for (boolean there : new boolean[] {true, false}) {
            Twins.refuse("not begun", Desks::busy, x -> x.entry(2, 1, 5, there),
                    Expect.STATE);
            for (int key : new int[] {0, 1, 100}) {
                Twins.refuse("the root, key " + key, Desks::busy,
                        x -> x.entry(0, 0, key, there), Expect.ARGUMENT);
            }
            for (int key : new int[] {0, -1, 101, LOWEST, HIGHEST}) {
                Twins.refuse("key " + key, Desks::busy, x -> x.entry(0, 1, key, there),
                        Expect.ARGUMENT);
            }
        }
        Twins.refuse("a seventh entry before the others", Desks::crowded,
                x -> x.entry(0, 1, 2, true), Expect.UNSUPPORTED);
        Twins.refuse("a seventh entry behind them", Desks::crowded,
                x -> x.entry(0, 1, 100, true), Expect.UNSUPPORTED);
    }

    private static void entryOrder() {
        Expect.about("8 entry, refused twice over");
        whileReadyAlone("no session", x -> x.entry(3, 1, 5, true));
        whileReadyAlone("no list", x -> x.entry(0, 9, 5, true));
        whileReadyAlone("the root", x -> x.entry(0, 0, 0, true));
        whileReadyAlone("key 0", x -> x.entry(0, 1, 0, true));
        Twins.refuse("no session, the root", Desks::busy, x -> x.entry(3, 0, 0, true),
                Expect.INDEX);
        Twins.refuse("no session, key 101", Desks::busy, x -> x.entry(-1, 1, 101, true),
                Expect.INDEX);
        Twins.refuse("no list, not begun", Desks::busy, x -> x.entry(2, 3, 5, true),
                Expect.INDEX);
        Twins.refuse("no list, key 0", Desks::busy, x -> x.entry(0, 3, 0, true),
                Expect.INDEX);
        Twins.refuse("no session, a full list", Desks::crowded, x -> x.entry(3, 1, 2, true),
                Expect.INDEX);
        Twins.refuse("not begun, the root", Desks::busy, x -> x.entry(2, 0, 5, true),
                Expect.STATE);
        Twins.refuse("not begun, key 0", Desks::busy, x -> x.entry(2, 1, 0, true),
                Expect.STATE);
        Twins.refuse("not begun, key 101", Desks::busy, x -> x.entry(2, 1, 101, false),
                Expect.STATE);
        Twins.refuse("key 0 in a full list", Desks::crowded, x -> x.entry(0, 1, 0, true),
                Expect.ARGUMENT);
        Twins.refuse("key 101 in a full list", Desks::crowded,
                x -> x.entry(0, 1, 101, true), Expect.ARGUMENT);
    }

    private static void set() {
        Expect.about("9 set, refused");
        whileReadyAlone("a setting", x -> x.set(0, 0, 0, 0, 1));
        for (int s : WRONG_SESSIONS) {
            Twins.refuse("session " + s, Desks::busy, x -> x.set(s, 0, 0, 0, 1),
                    Expect.INDEX);
        }
        for (int list : WRONG_LISTS) {
            Twins.refuse("list " + list, Desks::busy, x -> x.set(0, list, 1, 0, 1),
                    Expect.INDEX);
        }
        for (int leaf : WRONG_LEAVES) {
            Twins.refuse("leaf " + leaf, Desks::busy, x -> x.set(0, 1, 1, leaf, 1),
                    Expect.INDEX);
        }
        Twins.refuse("a list without leaves", Desks::busy, x -> x.set(1, 2, 2, 0, 1),
                Expect.INDEX);
        Twins.refuse("not begun", Desks::busy, x -> x.set(2, 0, 0, 0, 1), Expect.STATE);
        for (int key : new int[] {0, 2, 4, 100, 101, -1, LOWEST, HIGHEST}) {
            Twins.refuse("no entry " + key, Desks::busy, x -> x.set(0, 1, key, 0, 1),
                    Expect.STATE);
        }
        for (int key : new int[] {-1, 1, LOWEST, HIGHEST}) {
            Twins.refuse("the root, key " + key, Desks::busy, x -> x.set(0, 0, key, 0, 1),
                    Expect.STATE);
        }
        Twins.refuse("an entry of another candidate", Desks::busy,
                x -> x.set(1, 1, 3, 0, 1), Expect.STATE);
        wrongValues();
    }

    private static void wrongValues() {
        for (int value : new int[] {-6, 6, LOWEST, HIGHEST}) {
            Twins.refuse("a number -5 .. 5, " + value, Desks::busy,
                    x -> x.set(0, 1, 1, 0, value), Expect.ARGUMENT);
        }
        for (int value : new int[] {-1, 10}) {
            Twins.refuse("the root's number 0 .. 9, " + value, Desks::busy,
                    x -> x.set(0, 0, 0, 0, value), Expect.ARGUMENT);
            Twins.refuse("a number that has a standard, " + value, Desks::busy,
                    x -> x.set(0, 1, 3, 1, value), Expect.ARGUMENT);
        }
        for (int value : new int[] {-1, 0, 101, LOWEST, HIGHEST}) {
            Twins.refuse("a reference " + value, Desks::busy,
                    x -> x.set(0, 1, 3, 2, value), Expect.ARGUMENT);
            Twins.refuse("a reference that was not set " + value, Desks::busy,
                    x -> x.set(0, 1, 1, 2, value), Expect.ARGUMENT);
        }
    }

    private static void setOrder() {
        Expect.about("9 set, refused twice over");
        whileReadyAlone("no session", x -> x.set(3, 0, 0, 0, 1));
        whileReadyAlone("no list", x -> x.set(0, 9, 0, 0, 1));
        whileReadyAlone("no leaf", x -> x.set(0, 0, 0, 9, 1));
        whileReadyAlone("no entry", x -> x.set(0, 1, 9, 0, 1));
        whileReadyAlone("a wrong value", x -> x.set(0, 0, 0, 0, 10));
        Twins.refuse("no session, no entry", Desks::busy, x -> x.set(3, 1, 9, 0, 1),
                Expect.INDEX);
        Twins.refuse("no session, a wrong value", Desks::busy, x -> x.set(3, 0, 0, 0, 10),
                Expect.INDEX);
        Twins.refuse("no list, not begun", Desks::busy, x -> x.set(2, 3, 0, 0, 1),
                Expect.INDEX);
        Twins.refuse("no leaf, not begun", Desks::busy, x -> x.set(2, 0, 0, 1, 1),
                Expect.INDEX);
        Twins.refuse("no leaf, no entry", Desks::busy, x -> x.set(0, 1, 9, 3, 1),
                Expect.INDEX);
        Twins.refuse("not begun, a wrong value", Desks::busy, x -> x.set(2, 0, 0, 0, 10),
                Expect.STATE);
        Twins.refuse("no entry, a wrong value", Desks::busy, x -> x.set(0, 1, 9, 0, 6),
                Expect.STATE);
        Twins.refuse("no entry, a wrong reference", Desks::busy,
                x -> x.set(0, 1, 9, 2, 101), Expect.STATE);
    }

    private static void unset() {
        Expect.about("10 unset, refused");
        whileReadyAlone("unset", x -> x.unset(0, 0, 0, 0));
        for (int s : WRONG_SESSIONS) {
            Twins.refuse("session " + s, Desks::busy, x -> x.unset(s, 0, 0, 0),
                    Expect.INDEX);
        }
        for (int list : WRONG_LISTS) {
            Twins.refuse("list " + list, Desks::busy, x -> x.unset(0, list, 1, 0),
                    Expect.INDEX);
        }
        for (int leaf : WRONG_LEAVES) {
            Twins.refuse("leaf " + leaf, Desks::busy, x -> x.unset(0, 1, 1, leaf),
                    Expect.INDEX);
        }
        Twins.refuse("not begun", Desks::busy, x -> x.unset(2, 0, 0, 0), Expect.STATE);
        for (int key : new int[] {0, 2, 4, 100, 101, -1, LOWEST, HIGHEST}) {
            Twins.refuse("no entry " + key, Desks::busy, x -> x.unset(0, 1, key, 0),
                    Expect.STATE);
        }
        for (int key : new int[] {-1, 1, LOWEST, HIGHEST}) {
            Twins.refuse("the root, key " + key, Desks::busy, x -> x.unset(0, 0, key, 0),
                    Expect.STATE);
        }
        Twins.refuse("an entry of another candidate", Desks::busy,
                x -> x.unset(1, 1, 3, 2), Expect.STATE);
    }

    private static void unsetOrder() {
        Expect.about("10 unset, refused twice over");
        whileReadyAlone("no session", x -> x.unset(3, 0, 0, 0));
        whileReadyAlone("no list", x -> x.unset(0, 9, 0, 0));
        whileReadyAlone("no leaf", x -> x.unset(0, 0, 0, 9));
        Twins.refuse("no session, no entry", Desks::busy, x -> x.unset(3, 1, 9, 0),
                Expect.INDEX);
        Twins.refuse("no list, not begun", Desks::busy, x -> x.unset(2, 3, 0, 0),
                Expect.INDEX);
        Twins.refuse("no leaf, not begun", Desks::busy, x -> x.unset(2, 0, 0, 1),
                Expect.INDEX);
        Twins.refuse("no leaf, no entry", Desks::busy, x -> x.unset(0, 1, 9, 3),
                Expect.INDEX);
    }

    private static void get() {
        Expect.about("11 get, refused");
        whileReadyAlone("get", x -> x.get(3, 1, 1, 0));
        for (int which : new int[] {-1, 5, LOWEST, HIGHEST}) {
            Twins.refuse("which " + which, Desks::busy, x -> x.get(which, 1, 1, 0),
                    Expect.INDEX);
        }
        for (int which = 0; which <= 4; which++) {
            int of = which;
            for (int list : WRONG_LISTS) {
                Twins.refuse("list " + list, Desks::busy, x -> x.get(of, list, 1, 0),
                        Expect.INDEX);
            }
            for (int leaf : WRONG_LEAVES) {
                Twins.refuse("leaf " + leaf, Desks::busy, x -> x.get(of, 1, 1, leaf),
                        Expect.INDEX);
            }
        }
        Twins.refuse("not begun", Desks::busy, x -> x.get(2, 1, 1, 0), Expect.STATE);
        for (int which : new int[] {0, 1, 3, 4}) {
            for (int key : new int[] {0, 2, 100, 101, -1, LOWEST, HIGHEST}) {
                Twins.refuse("no entry " + key + " in " + which, Desks::busy,
                        x -> x.get(which, 1, key, 1), Expect.UNSUPPORTED);
            }
            Twins.refuse("the root, key 1, in " + which, Desks::busy,
                    x -> x.get(which, 0, 1, 0), Expect.UNSUPPORTED);
            Twins.refuse("nothing, in " + which, Desks::busy,
                    x -> x.get(which, 1, 1, 2), Expect.UNSUPPORTED);
        }
    }

    private static void getOrder() {
        Expect.about("11 get, refused twice over");
        whileReadyAlone("no which", x -> x.get(5, 1, 1, 0));
        whileReadyAlone("no list", x -> x.get(3, 9, 1, 0));
        whileReadyAlone("no leaf", x -> x.get(3, 1, 1, 9));
        whileReadyAlone("no entry", x -> x.get(3, 1, 9, 0));
        Twins.refuse("no which, no entry", Desks::busy, x -> x.get(5, 1, 9, 0),
                Expect.INDEX);
        Twins.refuse("no list, not begun", Desks::busy, x -> x.get(2, 3, 1, 0),
                Expect.INDEX);
        Twins.refuse("no leaf, not begun", Desks::busy, x -> x.get(2, 1, 1, 3),
                Expect.INDEX);
        Twins.refuse("no leaf, no entry", Desks::busy, x -> x.get(3, 1, 9, 3),
                Expect.INDEX);
        Twins.refuse("not begun, no entry", Desks::busy, x -> x.get(2, 1, 9, 0),
                Expect.STATE);
        Twins.refuse("not begun, nothing", Desks::busy, x -> x.get(2, 1, 1, 2),
                Expect.STATE);
    }

    private static void lock() {
        Expect.about("12 lock, refused");
        for (boolean takes : new boolean[] {true, false}) {
            whileReadyAlone("lock", x -> x.lock(0, takes));
            for (int s : WRONG_SESSIONS) {
                Twins.refuse("session " + s, Desks::busy, x -> x.lock(s, takes),
                        Expect.INDEX);
                whileReadyAlone("session " + s, x -> x.lock(s, takes));
            }
            Twins.refuse("not begun", Desks::busy, x -> x.lock(2, takes), Expect.STATE);
            Twins.refuse("not begun, and it is free", Desks::readyAlone,
                    x -> x.lock(2, takes), Expect.STATE);
        }
    }

    private static void commit() {
        Expect.about("13 commit, refused");
        whileReadyAlone("commit", x -> x.commit(0, 0));
        for (int s : WRONG_SESSIONS) {
            Twins.refuse("session " + s, Desks::busy, x -> x.commit(s, 0), Expect.INDEX);
        }
        Twins.refuse("not begun", Desks::confirmed, x -> x.commit(2, 0), Expect.STATE);
        for (int ticks : new int[] {-1, 1001, LOWEST, HIGHEST}) {
            Twins.refuse(ticks + " ticks", Desks::confirmed, x -> x.commit(1, ticks),
                    Expect.ARGUMENT);
        }
    }

    private static void commitOrder() {
        Expect.about("13 commit, refused twice over");
        whileReadyAlone("no session", x -> x.commit(3, 0));
        whileReadyAlone("-1 ticks", x -> x.commit(0, -1));
        Twins.refuse("no session, -1 ticks", Desks::busy, x -> x.commit(3, -1),
                Expect.INDEX);
        Twins.refuse("not begun, -1 ticks", Desks::busy, x -> x.commit(2, -1),
                Expect.STATE);
        Twins.refuse("not begun, 1001 ticks", Desks::busy, x -> x.commit(2, 1001),
                Expect.STATE);
        Twins.refuse("not begun, while a commit waits", Desks::busy, x -> x.commit(2, 0),
                Expect.STATE);
        Twins.refuse("1001 ticks, while a commit waits", Desks::busy,
                x -> x.commit(0, 1001), Expect.ARGUMENT);
        Twins.refuse("-1 ticks, another has the lock", Desks::confirmed,
                x -> x.commit(0, -1), Expect.ARGUMENT);
    }

    private static void confirmTickSave() {
        Expect.about("14 confirm, refused");
        whileReadyAlone("confirm()", x -> x.confirm());
        Expect.about("15 tick, refused");
        whileReadyAlone("tick()", x -> x.tick());
        Expect.about("18 save, refused");
        whileReadyAlone("save()", x -> x.save());
    }

    private static void rollback() {
        Expect.about("16 rollback, refused");
        whileReadyAlone("rollback", x -> x.rollback(0, 0));
        for (int s : WRONG_SESSIONS) {
            Twins.refuse("session " + s, Desks::busy, x -> x.rollback(s, 0), Expect.INDEX);
        }
        Twins.refuse("not begun", Desks::busy, x -> x.rollback(2, 0), Expect.STATE);
        for (int n : new int[] {-1, 4, 8, LOWEST, HIGHEST}) {
            Twins.refuse("n " + n + ", 3 older", Desks::busy, x -> x.rollback(0, n),
                    Expect.ARGUMENT);
        }
        Twins.refuse("n 1, none older", Desks::noneOlder, x -> x.rollback(0, 1),
                Expect.ARGUMENT);
        for (int n : new int[] {-1, 9, 10}) {
            Twins.refuse("n " + n + ", 8 older", Desks::manyOlder, x -> x.rollback(0, n),
                    Expect.ARGUMENT);
        }
    }

    private static void rollbackOrder() {
        Expect.about("16 rollback, refused twice over");
        whileReadyAlone("no session", x -> x.rollback(3, 0));
        whileReadyAlone("n -1", x -> x.rollback(0, -1));
        Twins.refuse("no session, n -1", Desks::busy, x -> x.rollback(3, -1), Expect.INDEX);
        Twins.refuse("not begun, n -1", Desks::busy, x -> x.rollback(2, -1), Expect.STATE);
        Twins.refuse("not begun, n 4", Desks::busy, x -> x.rollback(2, 4), Expect.STATE);
    }

    private static void diff() {
        Expect.about("17 diff, refused");
        whileReadyAlone("diff", x -> x.diff(0, 0, 0));
        for (int s : WRONG_SESSIONS) {
            Twins.refuse("session " + s, Desks::busy, x -> x.diff(s, 0, 0), Expect.INDEX);
        }
        Twins.refuse("not begun", Desks::busy, x -> x.diff(2, 0, 0), Expect.STATE);
        // Candidate 0 differs by the root's leaf, an entry of list 1, its reference, one of list 2.
        for (int k : new int[] {-1, 4, 5, LOWEST, HIGHEST}) {
            for (int what = 0; what <= 3; what++) {
                int asked = what;
                Twins.refuse("k " + k, Desks::busy, x -> x.diff(0, k, asked),
                        Expect.INDEX);
            }
        }
        for (int what : new int[] {-1, 4, LOWEST, HIGHEST}) {
            Twins.refuse("what " + what, Desks::busy, x -> x.diff(0, 3, what),
                    Expect.INDEX);
        }
    }

    private static void diffOrder() {
        Expect.about("17 diff, refused twice over");
        whileReadyAlone("no session", x -> x.diff(3, 0, 0));
        whileReadyAlone("k -1", x -> x.diff(0, -1, 0));
        whileReadyAlone("what 4", x -> x.diff(0, 0, 4));
        Twins.refuse("no session, k -1", Desks::busy, x -> x.diff(3, -1, 0), Expect.INDEX);
        Twins.refuse("not begun, k -1", Desks::busy, x -> x.diff(2, -1, 0), Expect.STATE);
        Twins.refuse("not begun, k 99", Desks::busy, x -> x.diff(2, 99, 0), Expect.STATE);
        Twins.refuse("not begun, what 4", Desks::busy, x -> x.diff(2, 0, 4), Expect.STATE);
    }

    private static void cut() {
        Expect.about("19 cut, refused");
        for (int n : new int[] {-2, 1001, LOWEST, HIGHEST}) {
            Twins.Calls call = x -> x.cut(n);
            Twins.refuse("n " + n + ", new", x -> { }, call, Expect.ARGUMENT);
            Twins.refuse("n " + n + ", not ready", Desks::open, call, Expect.ARGUMENT);
            Twins.refuse("n " + n + ", busy", Desks::busy, call, Expect.ARGUMENT);
            Twins.refuse("n " + n + ", off", Desks::withoutPower, call, Expect.ARGUMENT);
        }
    }
}
