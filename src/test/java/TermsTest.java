/**
 * The sentences of "Terms" that name a boundary, each at the boundary, just inside it and just
 * beyond it. What is beyond and throws is looked at by RefusalTest too, with what it leaves.
 */
public final class TermsTest {
    private static final int DONE = SettingsDesk.DONE;
    private static final int CLASH = SettingsDesk.CLASH;
    private static final int INVALID = SettingsDesk.INVALID;
    private static final int LOCKED = SettingsDesk.LOCKED;
    private static final int NONE = SettingsDesk.NONE;
    private static final int LOWEST = Integer.MIN_VALUE;
    private static final int HIGHEST = Integer.MAX_VALUE;

    public static void main(String[] args) {
        lists();
        leaves();
        numbers();
        references();
        flags();
        standards();
        rules();
        keys();
        entries();
        rootEntry();
        whatALeafIs();
        emptyAtFirst();
        olderSets();
        noChange();
        sessions();
        commitOrder();
        waiting();
        takenBack();
        pages();
        powerFails();
        powerBack();
        Expect.end();
    }

    private static void lists() {
        Expect.about("Terms: up to 4 lists, numbered from 0");
        for (int made = 0; made <= 3; made++) {
            SettingsDesk x = new SettingsDesk();
            for (int number = 1; number <= made; number++) {
                Expect.same("list()", x.list(), number);
            }
            for (int list = 0; list <= made; list++) {
                Expect.same("a leaf of list " + list, x.leaf(list, 0, 0, 9, 0), 0);
                Expect.same("entries of list " + list, x.figure(10 + list), list == 0 ? 1 : 0);
            }
            int beyond = made + 1;
            Expect.fails("a leaf of list " + beyond, Expect.INDEX,
                    () -> x.leaf(beyond, 0, 0, 9, 0));
            Expect.same("entries of list " + beyond, x.figure(10 + beyond), NONE);
            if (made == 3) {
                Expect.fails("a fifth list", Expect.STATE, x::list);
                Expect.fails("a sixth list", Expect.STATE, x::list);
            }
        }
    }

    private static void leaves() {
        Expect.about("Terms: up to 4 leaves a list, numbered from 0");
        SettingsDesk x = new SettingsDesk();
        x.list();
        x.list();
        x.list();
        for (int list = 0; list <= 3; list++) {
            int of = list;
            for (int number = 0; number < 4; number++) {
                int none = number;
                Expect.fails("not made yet", Expect.INDEX, () -> x.standard(of, none, 9));
                Expect.same("leaf of " + list, x.leaf(list, 0, 0, 9, 0), number);
                x.standard(list, number, number);
            }
            Expect.fails("a fifth leaf of " + list, Expect.STATE, () -> x.leaf(of, 0, 0, 9, 0));
            Expect.fails("its standard", Expect.INDEX, () -> x.standard(of, 4, 9));
        }
        x.ready();
        x.begin(0);
        for (int list = 0; list <= 3; list++) {
            int of = list;
            int key = list == 0 ? 0 : 5;
            if (list > 0) {
                x.entry(0, list, key, true);
            }
            for (int leaf = 0; leaf < 4; leaf++) {
                Expect.same("leaf " + leaf + " of " + list, x.get(0, list, key, leaf), leaf);
            }
            Expect.fails("leaf 4 of " + list, Expect.INDEX, () -> x.get(0, of, key, 4));
        }
    }

    /** A desk whose root has one number; session 0 has begun. */
    private static SettingsDesk withNumber(int low, int high) {
        SettingsDesk x = new SettingsDesk();
        x.leaf(0, 0, low, high, 0);
        x.ready();
        x.begin(0);
        return x;
    }

    private static void numbers() {
        Expect.about("Terms: a number from a lowest to a highest one");
        int[][] ranges = {{0, 9}, {-5, -5}, {0, 1}, {-1, 0}, {LOWEST, LOWEST}, {HIGHEST, HIGHEST},
            {LOWEST, HIGHEST}, {LOWEST, 0}, {0, HIGHEST}, {LOWEST + 1, HIGHEST - 1}};
        for (int[] range : ranges) {
            int low = range[0];
            int high = range[1];
            SettingsDesk x = withNumber(low, high);
            takes(x, low);
            takes(x, high);
            if (low < high) {
                takes(x, low + 1);
                takes(x, high - 1);
            }
            if (low > LOWEST) {
                refuses(x, low - 1);
                refuses(x, LOWEST);
            }
            if (high < HIGHEST) {
                refuses(x, high + 1);
                refuses(x, HIGHEST);
            }
        }
    }

    private static void takes(SettingsDesk x, int value) {
        x.set(0, 0, 0, 0, value);
        Expect.same("set to " + value, x.get(0, 0, 0, 0), value);
        Expect.same("committed " + value, x.commit(0, 0), DONE);
        Expect.same("running " + value, x.get(3, 0, 0, 0), value);
    }

    private static void refuses(SettingsDesk x, int value) {
        int was = x.get(0, 0, 0, 0);
        Expect.fails("set to " + value, Expect.ARGUMENT, () -> x.set(0, 0, 0, 0, value));
        Expect.same("it is as it was", x.get(0, 0, 0, 0), was);
    }

    private static void references() {
        Expect.about("Terms: a reference to a list, not the root");
        SettingsDesk x = new SettingsDesk();
        x.list();
        x.list();
        Expect.fails("to the root", Expect.ARGUMENT, () -> x.leaf(1, 1, 0, 0, 0));
        Expect.fails("to a list not made yet", Expect.ARGUMENT, () -> x.leaf(1, 1, 3, 0, 0));
        x.list();
        Expect.same("to its own list", x.leaf(1, 1, 1, 0, 0), 0);
        Expect.same("to another list", x.leaf(1, 1, 2, LOWEST, 0), 1);
        Expect.same("to the last list", x.leaf(1, 1, 3, HIGHEST, 0), 2);
        Expect.fails("beyond the last list", Expect.ARGUMENT, () -> x.leaf(1, 1, 4, 0, 0));
        Expect.same("of the root", x.leaf(0, 1, 3, 0, 0), 0);
        x.ready();
        x.begin(0);
        x.entry(0, 1, 1, true);
        x.entry(0, 3, 1, true);
        x.entry(0, 3, 100, true);
        for (int value : new int[] {1, 100}) {
            x.set(0, 0, 0, 0, value);
            Expect.same("the least and the greatest key", x.commit(0, 0), DONE);
        }
        for (int value : new int[] {2, 99}) {
            x.set(0, 0, 0, 0, value);
            Expect.same("a key that is not there", x.commit(0, 0), INVALID);
            trouble(x, 2, 0, 0, 0);
        }
        for (int value : new int[] {0, 101}) {
            Expect.fails("no key at all", Expect.ARGUMENT, () -> x.set(0, 0, 0, 0, value));
        }
        x.unset(0, 0, 0, 0);
        x.set(0, 1, 1, 0, 1);
        Expect.same("an entry to itself", x.commit(0, 0), DONE);
        x.set(0, 1, 1, 1, 1);
        Expect.same("the key of other lists' entries", x.commit(0, 0), INVALID);
        trouble(x, 2, 1, 1, 1);
    }

    private static void trouble(SettingsDesk x, int fault, int list, int key, int part) {
        Expect.same("the fault", x.figure(5), fault);
        Expect.same("its list", x.figure(6), list);
        Expect.same("its key", x.figure(7), key);
        Expect.same("its leaf or rule", x.figure(8), part);
    }

    /** The fault of two entries whose only leaf is of this kind, and is this in both (0: nothing). */
    private static int faultOf(int kind, int flags, int value) {
        SettingsDesk x = new SettingsDesk();
        x.list();
        x.leaf(1, kind, 1, 9, flags);
        x.ready();
        x.begin(0);
        for (int key = 1; key <= 2; key++) {
            x.entry(0, 1, key, true);
            if (value != 0) {
                x.set(0, 1, key, 0, value);
            }
        }
        return x.commit(0, 0) == DONE ? 0 : x.figure(5);
    }

    private static void flags() {
        Expect.about("Terms: it may be required, and unique");
        for (int kind = 0; kind <= 1; kind++) {
            for (int flags = 0; flags <= 3; flags++) {
                Expect.same("flags " + flags + ", nothing", faultOf(kind, flags, 0),
                        flags == 1 || flags == 3 ? 1 : 0);
                Expect.same("flags " + flags + ", the same", faultOf(kind, flags, 2),
                        flags >= 2 ? 3 : 0);
            }
        }
        SettingsDesk x = new SettingsDesk();
        Expect.fails("flags 4", Expect.ARGUMENT, () -> x.leaf(0, 0, 0, 9, 4));
        Expect.fails("flags -1", Expect.ARGUMENT, () -> x.leaf(0, 0, 0, 9, -1));
    }

    private static void standards() {
        Expect.about("Terms: a standard, one of its own numbers");
        int[][] ranges = {{0, 9}, {-5, -5}, {LOWEST, HIGHEST}, {LOWEST, -1}, {1, HIGHEST}};
        for (int[] range : ranges) {
            for (int value : range) {
                SettingsDesk x = new SettingsDesk();
                x.leaf(0, 0, range[0], range[1], 0);
                if (range[0] > LOWEST) {
                    Expect.fails("below", Expect.ARGUMENT, () -> x.standard(0, 0, range[0] - 1));
                }
                if (range[1] < HIGHEST) {
                    Expect.fails("above", Expect.ARGUMENT, () -> x.standard(0, 0, range[1] + 1));
                }
                x.standard(0, 0, value);
                x.ready();
                Expect.same("the standard", x.get(3, 0, 0, 0), value);
            }
        }
    }

    private static void rules() {
        Expect.about("Terms: up to 4 rules, numbered from 0");
        SettingsDesk x = new SettingsDesk();
        x.list();
        for (int list = 0; list <= 1; list++) {
            x.leaf(list, 0, LOWEST, HIGHEST, 0);
            x.leaf(list, 0, LOWEST, HIGHEST, 0);
        }
        Expect.same("of the root", x.rule(0, 0, LOWEST, 1, true), 0);
        Expect.same("of list 1", x.rule(1, 0, HIGHEST, 1, false), 1);
        Expect.same("of a leaf twice", x.rule(1, 1, 0, 1, false), 2);
        Expect.same("the last one", x.rule(0, 1, 5, 0, true), 3);
        Expect.fails("a fifth, of the root", Expect.STATE, () -> x.rule(0, 0, 1, 1, true));
        Expect.fails("a fifth, of list 1", Expect.STATE, () -> x.rule(1, 0, 1, 1, true));
        x.ready();
        x.begin(0);
        x.set(0, 0, 0, 0, LOWEST);
        Expect.same("rule 0 is broken", x.commit(0, 0), INVALID);
        trouble(x, 4, 0, 0, 0);
        x.set(0, 0, 0, 0, LOWEST + 1);
        Expect.same("a is another value", x.commit(0, 0), DONE);
        x.unset(0, 0, 0, 0);
        x.set(0, 0, 0, 1, 5);
        Expect.same("rule 3 is broken", x.commit(0, 0), INVALID);
        trouble(x, 4, 0, 0, 3);
        x.set(0, 0, 0, 1, 6);
        x.entry(0, 1, 1, true);
        x.set(0, 1, 1, 0, HIGHEST);
        Expect.same("b is not there, as it must", x.commit(0, 0), DONE);
        x.set(0, 1, 1, 1, 0);
        Expect.same("rules 1 and 2 are broken", x.commit(0, 0), INVALID);
        trouble(x, 4, 1, 1, 1);
        x.set(0, 1, 1, 0, 7);
        Expect.same("rule 2 alone", x.commit(0, 0), INVALID);
        trouble(x, 4, 1, 1, 2);
    }

    /** Lists 1, 2 and 3 have a number each; the sessions have begun. */
    private static SettingsDesk withLists() {
        SettingsDesk x = new SettingsDesk();
        x.leaf(0, 0, 0, 99, 0);
        for (int list = 1; list <= 3; list++) {
            x.list();
            x.leaf(list, 0, 0, 99, 0);
        }
        x.ready();
        for (int s = 0; s <= 2; s++) {
            x.begin(s);
        }
        return x;
    }

    private static void keys() {
        Expect.about("Terms: a key, 1 .. 100, of its own");
        for (int list = 1; list <= 3; list++) {
            int of = list;
            SettingsDesk x = withLists();
            for (int key : new int[] {100, 1, 99, 2}) {
                Expect.yes("key " + key, x.entry(0, list, key, true));
                Expect.no("the same key again", x.entry(0, list, key, true));
                x.set(0, list, key, 0, key - 1);
            }
            for (int key : new int[] {0, 101}) {
                Expect.fails("key " + key, Expect.ARGUMENT, () -> x.entry(0, of, key, true));
            }
            Expect.same("committed", x.commit(0, 0), DONE);
            Expect.same("4 entries", x.figure(10 + list), 4);
            for (int key : new int[] {1, 2, 99, 100}) {
                Expect.same("running " + key, x.get(3, list, key, 0), key - 1);
            }
        }
    }

    private static void entries() {
        Expect.about("Terms: at most 6 entries for a list");
        SettingsDesk x = withLists();
        for (int list = 1; list <= 3; list++) {
            int of = list;
            for (int count = 1; count <= 6; count++) {
                Expect.yes("entry " + count, x.entry(0, list, 10 * count, true));
            }
            Expect.fails("a seventh", Expect.UNSUPPORTED, () -> x.entry(0, of, 5, true));
            Expect.yes("one away", x.entry(0, list, 60, false));
            Expect.yes("makes room for one", x.entry(0, list, 5, true));
            Expect.fails("and for one alone", Expect.UNSUPPORTED, () -> x.entry(0, of, 60, true));
        }
        Expect.same("all lists are full", x.commit(0, 0), DONE);
        for (int list = 1; list <= 3; list++) {
            int of = list;
            Expect.same("6 entries", x.figure(10 + list), 6);
            Expect.fails("nor after a commit", Expect.UNSUPPORTED, () -> x.entry(0, of, 7, true));
        }
        Expect.same("18 entries, the root's, and one page more", x.save(), 20);
        for (int list = 1; list <= 3; list++) {
            for (int key : new int[] {5, 10, 20, 30, 40, 50}) {
                Expect.yes("away", x.entry(0, list, key, false));
            }
            Expect.no("none is left", x.entry(0, list, 60, false));
        }
        Expect.same("no entry", x.commit(0, 0), DONE);
        Expect.same("the root's, and one page more", x.save(), 2);
    }

    private static void rootEntry() {
        Expect.about("Terms: the root has always just one entry, with the key 0");
        SettingsDesk x = withLists();
        Expect.same("at first", x.figure(10), 1);
        Expect.fails("it can not be made", Expect.ARGUMENT, () -> x.entry(0, 0, 0, true));
        Expect.fails("nor be taken away", Expect.ARGUMENT, () -> x.entry(0, 0, 0, false));
        Expect.fails("nor a second one", Expect.ARGUMENT, () -> x.entry(0, 0, 1, true));
        x.set(0, 0, 0, 0, 8);
        Expect.fails("key 1", Expect.STATE, () -> x.set(0, 0, 1, 0, 8));
        Expect.fails("key -1", Expect.STATE, () -> x.set(0, 0, -1, 0, 8));
        x.set(1, 0, 0, 0, 8);
        x.entry(1, 1, 1, true);
        x.commit(0, 0);
        Expect.same("after a commit", x.figure(10), 1);
        x.commit(1, 0);
        Expect.same("after a merge", x.figure(10), 1);
        Expect.same("its leaf", x.get(3, 0, 0, 0), 8);
        x.cut(0);
        x.reboot();
        Expect.same("after the power was off", x.figure(10), 1);
        Expect.fails("key 0 of another list", Expect.UNSUPPORTED, () -> x.get(3, 1, 0, 0));
    }

    private static void whatALeafIs() {
        Expect.about("Terms: what a leaf is");
        SettingsDesk x = new SettingsDesk();
        x.leaf(0, 0, -9, 9, 0);
        x.leaf(0, 0, -9, 9, 0);
        x.standard(0, 1, 0);
        x.ready();
        x.begin(0);
        Expect.fails("nothing", Expect.UNSUPPORTED, () -> x.get(0, 0, 0, 0));
        Expect.same("its standard, 0", x.get(0, 0, 0, 1), 0);
        for (int value : new int[] {-1, 0, 1}) {
            x.set(0, 0, 0, 0, value);
            x.set(0, 0, 0, 1, value);
            Expect.same("set, without a standard", x.get(0, 0, 0, 0), value);
            Expect.same("set, with a standard", x.get(0, 0, 0, 1), value);
        }
        Expect.yes("not set any more", x.unset(0, 0, 0, 0));
        Expect.yes("not set any more", x.unset(0, 0, 0, 1));
        Expect.fails("nothing again", Expect.UNSUPPORTED, () -> x.get(0, 0, 0, 0));
        Expect.same("its standard again", x.get(0, 0, 0, 1), 0);
    }

    private static void emptyAtFirst() {
        Expect.about("Terms: the running set and the saved set are at first empty");
        SettingsDesk x = withLists();
        Expect.fails("running", Expect.UNSUPPORTED, () -> x.get(3, 0, 0, 0));
        Expect.fails("saved", Expect.UNSUPPORTED, () -> x.get(4, 0, 0, 0));
        for (int list = 1; list <= 3; list++) {
            Expect.same("no entry of list " + list, x.figure(10 + list), 0);
        }
        Expect.same("no older set", x.figure(1), 0);
        x.set(0, 0, 0, 0, 1);
        x.commit(0, 0);
        x.cut(0);
        x.reboot();
        Expect.fails("the saved set is running", Expect.UNSUPPORTED, () -> x.get(3, 0, 0, 0));
    }

    private static void olderSets() {
        Expect.about("Terms: up to 8 older sets, if there would be 9, the oldest is forgotten");
        SettingsDesk x = withLists();
        for (int count = 1; count <= 18; count++) {
            x.set(0, 0, 0, 0, count);
            x.commit(0, 0);
            int older = Math.min(count, 8);
            Expect.same("changes", x.figure(0), count);
            Expect.same("older sets", x.figure(1), older);
            for (int n = 0; n <= older; n++) {
                Expect.same("how many", x.rollback(1, n), older);
                if (n < count) {
                    Expect.same("running " + n + " changes ago", x.get(1, 0, 0, 0), count - n);
                } else {
                    Expect.fails("empty at first", Expect.UNSUPPORTED, () -> x.get(1, 0, 0, 0));
                }
            }
            Expect.fails("beyond", Expect.ARGUMENT, () -> x.rollback(1, older + 1));
        }
    }

    private static void noChange() {
        Expect.about("Terms: a change, when it is not the same");
        SettingsDesk x = withLists();
        x.entry(0, 1, 4, true);
        Expect.same("an entry without settings", x.commit(0, 0), DONE);
        Expect.same("is a change", x.figure(0), 1);
        x.set(0, 1, 4, 0, 0);
        Expect.same("a setting to 0", x.commit(0, 0), DONE);
        Expect.same("is a change", x.figure(0), 2);
        x.entry(0, 1, 4, false);
        x.entry(0, 1, 4, true);
        x.set(0, 1, 4, 0, 0);
        Expect.same("away and there again, alike", x.commit(0, 9), DONE);
        Expect.same("is none", x.figure(0), 2);
        Expect.same("no older set by it", x.figure(1), 2);
        Expect.same("it does not wait", x.figure(2), 0);
        x.save();
        x.cut(0);
        x.reboot();
        Expect.same("nor when the saved set is the same", x.figure(0), 2);
        x.begin(0);
        x.entry(0, 1, 4, false);
        x.entry(0, 1, 5, true);
        x.set(0, 1, 5, 0, 0);
        Expect.same("another key", x.commit(0, 0), DONE);
        Expect.same("is a change", x.figure(0), 3);
        x.entry(0, 1, 5, false);
        x.entry(0, 2, 5, true);
        x.set(0, 2, 5, 0, 0);
        Expect.same("another list", x.commit(0, 0), DONE);
        Expect.same("is a change", x.figure(0), 4);
    }

    private static void sessions() {
        Expect.about("Terms: sessions are 0, 1, 2");
        SettingsDesk x = new SettingsDesk();
        x.leaf(0, 0, 0, 9, 0);
        x.ready();
        for (int s = 0; s <= 2; s++) {
            int of = s;
            Expect.fails("not begun", Expect.STATE, () -> x.set(of, 0, 0, 0, 1));
            Expect.same("begun", x.begin(s), s + 1);
            x.set(s, 0, 0, 0, s + 1);
        }
        for (int s = 0; s <= 2; s++) {
            Expect.same("a candidate of its own", x.get(s, 0, 0, 0), s + 1);
        }
        Expect.fails("session 3", Expect.INDEX, () -> x.begin(3));
        Expect.fails("session -1", Expect.INDEX, () -> x.begin(-1));
        Expect.fails("the running set has its own", Expect.UNSUPPORTED, () -> x.get(3, 0, 0, 0));
        Expect.same("session 2 commits", x.commit(2, 0), DONE);
        Expect.same("candidate 0 stays", x.get(0, 0, 0, 0), 1);
        Expect.same("session 0 begins anew", x.begin(0), 3);
        Expect.same("its candidate is running", x.get(0, 0, 0, 0), 3);
        Expect.same("candidate 1 stays", x.get(1, 0, 0, 0), 2);
    }

    private static void commitOrder() {
        Expect.about("Terms: LOCKED, then CLASH, then INVALID, else DONE");
        SettingsDesk x = new SettingsDesk();
        x.leaf(0, 0, 0, 9, 0);
        x.leaf(0, 0, 0, 9, 0);
        x.rule(0, 0, 5, 0, false);
        x.ready();
        x.begin(0);
        x.begin(1);
        x.begin(2);
        x.set(1, 0, 0, 1, 2);
        x.set(1, 0, 0, 0, 5);
        x.set(0, 0, 0, 1, 1);
        x.commit(0, 3);
        x.lock(2, true);
        Expect.same("a commit waits, and another has the lock", x.commit(1, 0), LOCKED);
        x.lock(2, false);
        Expect.same("a commit waits", x.commit(1, 0), LOCKED);
        x.lock(2, true);
        x.confirm();
        Expect.same("another has the lock", x.commit(1, 0), LOCKED);
        trouble(x, 0, 0, 0, 0);
        x.lock(2, false);
        x.lock(1, true);
        Expect.same("a clash, and a fault", x.commit(1, 0), CLASH);
        trouble(x, 0, 0, 0, 1);
        x.set(1, 0, 0, 1, 1);
        Expect.same("a fault", x.commit(1, 0), INVALID);
        trouble(x, 4, 0, 0, 0);
        x.set(1, 0, 0, 0, 4);
        Expect.same("nothing of these", x.commit(1, 0), DONE);
    }

    private static void waiting() {
        Expect.about("Terms: a commit for some ticks that was done by a change waits");
        for (int ticks : new int[] {0, 1, 2, 999, 1000}) {
            SettingsDesk x = withNumber(0, 9);
            x.set(0, 0, 0, 0, 1);
            Expect.same("for " + ticks, x.commit(0, ticks), DONE);
            Expect.same("so many are left", x.figure(2), ticks);
            x.set(0, 0, 0, 0, 2);
            Expect.same("another commit", x.commit(0, 7), ticks == 0 ? DONE : LOCKED);
            Expect.same("it waits", x.figure(2), ticks == 0 ? 7 : ticks);
            Expect.yes("confirmed", x.confirm());
            Expect.no("and waits no more", x.confirm());
        }
        SettingsDesk x = withNumber(0, 9);
        for (int ticks : new int[] {-1, 1001}) {
            Expect.fails(ticks + " ticks", Expect.ARGUMENT, () -> x.commit(0, ticks));
        }
    }

    private static void takenBack() {
        Expect.about("Terms: when as many ticks went by, it is taken back");
        for (int ticks : new int[] {1, 2, 3, 400}) {
            SettingsDesk x = withNumber(0, 9);
            x.set(0, 0, 0, 0, 1);
            x.commit(0, 0);
            x.set(0, 0, 0, 0, 2);
            x.commit(0, ticks);
            for (int tick = 1; tick < ticks; tick++) {
                Expect.no("tick " + tick + " of " + ticks, x.tick());
            }
            Expect.same("one is left", x.figure(2), 1);
            Expect.same("it runs", x.get(3, 0, 0, 0), 2);
            Expect.yes("the last", x.tick());
            Expect.same("none is left", x.figure(2), 0);
            Expect.same("the one before runs", x.get(3, 0, 0, 0), 1);
            Expect.same("by a change", x.figure(0), 3);
            Expect.no("one beyond", x.tick());
            Expect.same("no change more", x.figure(0), 3);
        }
        SettingsDesk x = withNumber(0, 9);
        x.set(0, 0, 0, 0, 2);
        x.commit(0, 1000);
        for (int tick = 1; tick <= 450; tick++) {
            x.tick();
        }
        Expect.same("450 of 1000", x.figure(2), 550);
        x.confirm();
        Expect.no("confirmed", x.tick());
        Expect.same("it stays", x.get(3, 0, 0, 0), 2);
    }

    /** A desk with so many entries in the running set beside the root's, which is not saved. */
    private static SettingsDesk withEntries(int count) {
        SettingsDesk x = withLists();
        for (int i = 0; i < count; i++) {
            x.entry(0, 1 + i / 6, 1 + i % 6, true);
        }
        x.set(0, 0, 0, 0, 1);
        x.commit(0, 0);
        return x;
    }

    private static void pages() {
        Expect.about("Terms: a page for each entry, and one more");
        for (int count = 0; count <= 18; count++) {
            SettingsDesk x = withEntries(count);
            Expect.same(count + " entries", x.save(), count + 2);
            Expect.same("saved", x.get(4, 0, 0, 0), 1);
        }
    }

    private static void powerFails() {
        Expect.about("Terms: the power may fail behind some page");
        for (int count : new int[] {0, 1, 2, 6, 18}) {
            int pages = count + 2;
            for (int n = 1; n <= pages + 1; n++) {
                SettingsDesk x = withEntries(count);
                Expect.no("it is on", x.cut(n));
                Expect.same("behind page " + n, x.save(), n < pages ? NONE : pages);
                Expect.same("off", x.figure(4), n <= pages ? 1 : 0);
                Expect.same("back", x.reboot() ? 1 : 0, n <= pages ? 1 : 0);
                if (n < pages) {
                    Expect.fails("the old set", Expect.UNSUPPORTED, () -> x.get(4, 0, 0, 0));
                } else {
                    Expect.same("the new set", x.get(4, 0, 0, 0), 1);
                }
                Expect.same("entries", x.figure(11), n < pages ? 0 : Math.min(count, 6));
                Expect.same("changes", x.figure(0), n < pages ? 2 : 1);
                if (n == pages + 1) {
                    Expect.same("behind the first page of the next", x.save(), NONE);
                } else {
                    Expect.same("no more is said", x.save(), n < pages ? 2 : pages);
                }
            }
        }
    }

    private static void powerBack() {
        Expect.about("Terms: when it comes back");
        SettingsDesk x = withLists();
        for (int value = 1; value <= 8; value++) {
            x.set(0, 0, 0, 0, value);
            x.commit(0, value == 8 ? 5 : 0);
            if (value == 4) {
                x.save();
            }
        }
        x.lock(1, true);
        x.cut(0);
        Expect.yes("it was off", x.reboot());
        Expect.same("the saved set runs", x.get(3, 0, 0, 0), 4);
        Expect.same("by a change", x.figure(0), 9);
        Expect.same("older ones stay, but for the oldest", x.figure(1), 8);
        Expect.same("nothing waits", x.figure(2), 0);
        Expect.same("nobody has the lock", x.figure(3), NONE);
        for (int s = 0; s <= 2; s++) {
            int of = s;
            Expect.fails("not begun", Expect.STATE, () -> x.commit(of, 0));
        }
        Expect.same("the first begins", x.begin(2), 1);
        for (int n = 1; n <= 8; n++) {
            x.rollback(2, n);
            Expect.same("running " + n + " changes ago", x.get(2, 0, 0, 0), 9 - n);
        }
    }
}
