/**
 * The boundaries that the promises 1 to 21 name for themselves, each at the boundary, just inside
 * it and just beyond it; those of "Terms" are in TermsTest, FaultTest and MergeTest.
 */
public final class EdgeTest {
    private static final int DONE = SettingsDesk.DONE;
    private static final int CLASH = SettingsDesk.CLASH;
    private static final int INVALID = SettingsDesk.INVALID;
    private static final int LOCKED = SettingsDesk.LOCKED;
    private static final int NONE = SettingsDesk.NONE;
    private static final int LOWEST = Integer.MIN_VALUE;
    private static final int HIGHEST = Integer.MAX_VALUE;

    public static void main(String[] args) {
        newObject();
        standardInPlace();
        readyByRequired();
        readyByRules();
        readyInEitherCase();
        beginCounts();
        entryIsEmpty();
        entryKeepsOthers();
        setInPlace();
        setAndUnsetAgain();
        eachLeafIsAChange();
        nothingLeftOfAnEntry();
        getOfEachSet();
        lockOfEachSession();
        commitTicks();
        confirmAtTheLastTick();
        tickWithoutAnyWaiting();
        rollbackBase();
        rollbackOldest();
        rollbackWhileWaiting();
        diffAtMost();
        diffKinds();
        diffOfNeighbours();
        saveWhileWaiting();
        cutCountsPages();
        cutFarAway();
        cutInPlace();
        rebootTwice();
        rebootOfTheSame();
        figureBounds();
        figureOfTheLatest();
        Expect.end();
    }

    /** Lists 1 to 3; all four lists have four numbers; the sessions have begun. */
    private static SettingsDesk wide() {
        SettingsDesk x = new SettingsDesk();
        for (int list = 0; list <= 3; list++) {
            if (list > 0) {
                x.list();
            }
            for (int leaf = 0; leaf < 4; leaf++) {
                x.leaf(list, 0, 0, 9, 0);
            }
        }
        x.ready();
        for (int s = 0; s <= 2; s++) {
            x.begin(s);
        }
        return x;
    }

    private static void commitValue(SettingsDesk x, int s, int value) {
        x.set(s, 0, 0, 0, value);
        Expect.same("commit", x.commit(s, 0), DONE);
    }

    private static void trouble(SettingsDesk x, int fault, int list, int key, int part) {
        Expect.same("the fault", x.figure(5), fault);
        Expect.same("its list", x.figure(6), list);
        Expect.same("its key", x.figure(7), key);
        Expect.same("its leaf or rule", x.figure(8), part);
    }

    private static void newObject() {
        Expect.about("1 a new object");
        int[] due = {0, 0, 0, NONE, 0, 0, 0, 0, 0, NONE, 1, NONE, NONE, NONE, NONE};
        SettingsDesk x = new SettingsDesk();
        for (int what = 0; what < due.length; what++) {
            Expect.same("figure(" + what + ")", x.figure(what), due[what]);
        }
        Expect.fails("no leaf of the root", Expect.INDEX, () -> x.rule(0, 0, 0, 0, true));
        Expect.fails("no list but the root", Expect.INDEX, () -> x.leaf(1, 0, 0, 9, 0));
        Expect.fails("not ready", Expect.STATE, () -> x.begin(0));
        Expect.same("the root's first leaf", x.leaf(0, 0, 0, 9, 0), 0);
        Expect.same("the first rule", x.rule(0, 0, 0, 0, true), 0);
        Expect.same("the first list", x.list(), 1);
        SettingsDesk other = new SettingsDesk();
        Expect.same("each object has its own", other.list(), 1);
        Expect.fails("leaves, too", Expect.INDEX, () -> other.standard(0, 0, 1));
    }

    private static void standardInPlace() {
        Expect.about("4 standard, in place of the one that it had");
        SettingsDesk x = new SettingsDesk();
        x.leaf(0, 0, -3, 3, 0);
        x.leaf(0, 0, -3, 3, 0);
        for (int value : new int[] {0, -3, 3, 2}) {
            x.standard(0, 0, value);
        }
        Expect.fails("4", Expect.ARGUMENT, () -> x.standard(0, 0, 4));
        x.ready();
        Expect.same("the latest that was taken", x.get(3, 0, 0, 0), 2);
        Expect.fails("the other leaf has none", Expect.UNSUPPORTED, () -> x.get(3, 0, 0, 1));
    }

    private static void readyByRequired() {
        Expect.about("6 ready, a required leaf");
        for (int flags = 0; flags <= 3; flags++) {
            SettingsDesk x = new SettingsDesk();
            x.leaf(0, 0, 0, 9, flags);
            Expect.same("flags " + flags, x.ready() ? 1 : 0, flags % 2 == 0 ? 1 : 0);
            SettingsDesk y = new SettingsDesk();
            y.leaf(0, 0, 0, 9, flags);
            y.standard(0, 0, 0);
            Expect.yes("with a standard, flags " + flags, y.ready());
            SettingsDesk z = new SettingsDesk();
            z.list();
            z.leaf(1, 0, 0, 9, flags);
            Expect.yes("of a list without entries, flags " + flags, z.ready());
            SettingsDesk r = new SettingsDesk();
            r.list();
            r.leaf(0, 1, 1, 9, flags);
            Expect.same("a reference, flags " + flags, r.ready() ? 1 : 0, flags % 2 == 0 ? 1 : 0);
        }
    }

    /** Whether the empty set is good under a rule, by the standards of a and b (-1: none). */
    private static boolean good(int a, int b, int value, boolean there) {
        SettingsDesk x = new SettingsDesk();
        x.leaf(0, 0, 0, 9, 0);
        x.leaf(0, 0, 0, 9, 0);
        if (a >= 0) {
            x.standard(0, 0, a);
        }
        if (b >= 0) {
            x.standard(0, 1, b);
        }
        x.rule(0, 0, value, 1, there);
        return x.ready();
    }

    private static void readyByRules() {
        Expect.about("6 ready, a rule");
        Expect.no("b must be there, and is nothing", good(3, -1, 3, true));
        Expect.yes("b must be there, and is 0", good(3, 0, 3, true));
        Expect.yes("b must not be there, and is nothing", good(3, -1, 3, false));
        Expect.no("b must not be there, and is 0", good(3, 0, 3, false));
        Expect.yes("a is another number", good(2, -1, 3, true));
        Expect.yes("a is nothing, which is not 0", good(-1, -1, 0, true));
        Expect.no("a is 0", good(0, -1, 0, true));
    }

    private static void readyInEitherCase() {
        Expect.about("6 ready, in either case");
        for (int flags = 0; flags <= 1; flags++) {
            SettingsDesk x = new SettingsDesk();
            x.leaf(0, 0, 0, 9, flags);
            x.ready();
            Expect.fails("ready again", Expect.STATE, x::ready);
            Expect.fails("list", Expect.STATE, x::list);
            Expect.fails("leaf", Expect.STATE, () -> x.leaf(0, 0, 0, 9, 0));
            Expect.fails("standard", Expect.STATE, () -> x.standard(0, 0, 1));
            Expect.fails("rule", Expect.STATE, () -> x.rule(0, 0, 1, 0, true));
            Expect.same("begin", x.begin(0), 1);
            x.set(0, 0, 0, 0, 1);
            Expect.same("commit", x.commit(0, 0), DONE);
        }
    }

    private static void beginCounts() {
        Expect.about("7 begin, how many sessions have begun");
        int[][] orders = {{0, 1, 2}, {2, 1, 0}, {1, 2, 0}};
        for (int[] order : orders) {
            SettingsDesk x = new SettingsDesk();
            x.ready();
            for (int i = 0; i < 3; i++) {
                Expect.same("begins", x.begin(order[i]), i + 1);
                Expect.same("begins anew", x.begin(order[i]), i + 1);
                Expect.same("the first anew", x.begin(order[0]), i + 1);
            }
            x.cut(0);
            x.reboot();
            for (int i = 0; i < 3; i++) {
                Expect.same("begins after the power was off", x.begin(order[2 - i]), i + 1);
            }
        }
    }

    private static void entryIsEmpty() {
        Expect.about("8 entry, without anything set");
        SettingsDesk x = wide();
        for (int key = 1; key <= 6; key++) {
            x.entry(0, 1, key, true);
            for (int leaf = 0; leaf < 4; leaf++) {
                x.set(0, 1, key, leaf, key);
            }
        }
        for (int key = 1; key <= 6; key++) {
            int of = key;
            Expect.yes("away", x.entry(0, 1, key, false));
            Expect.fails("no entry", Expect.UNSUPPORTED, () -> x.get(0, 1, of, 0));
            Expect.fails("nothing to set", Expect.STATE, () -> x.set(0, 1, of, 0, 1));
            Expect.yes("there again", x.entry(0, 1, key, true));
            for (int leaf = 0; leaf < 4; leaf++) {
                Expect.no("not set", x.unset(0, 1, key, leaf));
            }
        }
    }

    private static void entryKeepsOthers() {
        Expect.about("8 entry, the others stay");
        int[] keys = {100, 1, 50, 2, 99, 51};
        for (int away : keys) {
            SettingsDesk x = wide();
            for (int key : keys) {
                x.entry(0, 2, key, true);
                x.set(0, 2, key, 3, key % 10);
            }
            x.entry(0, 2, away, false);
            x.entry(0, 2, 49, true);
            for (int key : keys) {
                if (key != away) {
                    Expect.same("entry " + key, x.get(0, 2, key, 3), key % 10);
                }
            }
            Expect.fails("away", Expect.UNSUPPORTED, () -> x.get(0, 2, away, 3));
            Expect.fails("new", Expect.UNSUPPORTED, () -> x.get(0, 2, 49, 3));
        }
    }

    private static void setInPlace() {
        Expect.about("9 set, 10 unset, each leaf for itself");
        SettingsDesk x = wide();
        for (int list = 0; list <= 3; list++) {
            int key = list == 0 ? 0 : 100;
            if (list > 0) {
                x.entry(1, list, key, true);
            }
            for (int leaf = 0; leaf < 4; leaf++) {
                x.set(1, list, key, leaf, 9);
                x.set(1, list, key, leaf, leaf + list);
            }
            Expect.yes("leaf 1 was set", x.unset(1, list, key, 1));
            Expect.no("not any more", x.unset(1, list, key, 1));
        }
        for (int list = 0; list <= 3; list++) {
            int of = list;
            int key = list == 0 ? 0 : 100;
            for (int leaf = 0; leaf < 4; leaf++) {
                if (leaf != 1) {
                    Expect.same("leaf " + leaf, x.get(1, list, key, leaf), leaf + list);
                }
            }
            Expect.fails("leaf 1", Expect.UNSUPPORTED, () -> x.get(1, of, key, 1));
        }
        Expect.fails("another candidate", Expect.UNSUPPORTED, () -> x.get(0, 0, 0, 0));
    }

    private static void setAndUnsetAgain() {
        Expect.about("9 set, 10 unset, it is as it was");
        for (int leaf = 0; leaf < 4; leaf++) {
            setAndUnset(0, 0, leaf);
            setAndUnset(1, 1, leaf);
        }
    }

    private static void setAndUnset(int list, int key, int leaf) {
        SettingsDesk x = wide();
        x.entry(0, 1, 1, true);
        x.commit(0, 0);
        x.save();
        x.begin(1);
        x.set(0, list, key, leaf, 5);
        x.unset(0, list, key, leaf);
        Expect.fails("no difference", Expect.INDEX, () -> x.diff(0, 0, 0));
        Expect.same("committed", x.commit(0, 9), DONE);
        Expect.same("no change but the one before", x.figure(0), 1);
        x.set(0, list, key, leaf, 6);
        x.commit(0, 0);
        x.unset(0, list, key, leaf);
        x.commit(0, 0);
        x.set(1, list, key, leaf, 7);
        Expect.same("running is the base again", x.commit(1, 0), DONE);
        x.unset(1, list, key, leaf);
        x.commit(1, 0);
        Expect.same("four changes more", x.figure(0), 5);
        x.cut(0);
        x.reboot();
        Expect.same("none to the saved set, which is the same", x.figure(0), 5);
    }

    private static void eachLeafIsAChange() {
        Expect.about("13 commit, a change of one leaf alone");
        SettingsDesk x = wide();
        int changes = 0;
        for (int list = 0; list <= 3; list++) {
            int key = list == 0 ? 0 : 50;
            if (list > 0) {
                x.entry(0, list, key, true);
                x.commit(0, 0);
                changes++;
            }
            for (int leaf = 0; leaf < 4; leaf++) {
                x.set(0, list, key, leaf, 0);
                Expect.same("set to 0", x.commit(0, 0), DONE);
                Expect.same("is a change", x.figure(0), changes + 1);
                x.set(0, list, key, leaf, 9);
                Expect.same("set to 9", x.commit(0, 0), DONE);
                Expect.same("is a change", x.figure(0), changes + 2);
                Expect.yes("not set", x.unset(0, list, key, leaf));
                Expect.same("not set", x.commit(0, 0), DONE);
                Expect.same("is a change", x.figure(0), changes + 3);
                changes += 3;
            }
        }
    }

    private static void nothingLeftOfAnEntry() {
        Expect.about("8 entry, none any more");
        SettingsDesk x = wide();
        x.entry(0, 1, 5, true);
        x.set(0, 1, 5, 0, 3);
        x.entry(0, 1, 5, false);
        Expect.fails("no difference", Expect.INDEX, () -> x.diff(0, 0, 0));
        Expect.same("no change", x.commit(0, 0), DONE);
        Expect.same("none at all", x.figure(0), 0);
        x.entry(0, 1, 5, true);
        x.set(0, 1, 5, 0, 3);
        x.commit(0, 0);
        x.entry(0, 1, 5, false);
        x.commit(0, 0);
        x.cut(0);
        x.reboot();
        Expect.same("the empty set again, as it was saved", x.figure(0), 2);
    }

    private static void getOfEachSet() {
        Expect.about("11 get, which 0 .. 4");
        SettingsDesk x = wide();
        commitValue(x, 0, 5);
        x.save();
        commitValue(x, 0, 4);
        for (int s = 0; s <= 2; s++) {
            x.set(s, 0, 0, 0, s + 1);
        }
        int[] due = {1, 2, 3, 4, 5};
        for (int which = 0; which <= 4; which++) {
            Expect.same("which " + which, x.get(which, 0, 0, 0), due[which]);
        }
        Expect.fails("which 5", Expect.INDEX, () -> x.get(5, 0, 0, 0));
        Expect.fails("which -1", Expect.INDEX, () -> x.get(-1, 0, 0, 0));
    }

    private static void lockOfEachSession() {
        Expect.about("12 lock");
        for (int s = 0; s <= 2; s++) {
            SettingsDesk x = wide();
            int next = (s + 1) % 3;
            int last = (s + 2) % 3;
            Expect.yes("takes it", x.lock(s, true));
            Expect.same("has it", x.figure(3), s);
            Expect.no("another one", x.lock(next, true));
            Expect.no("another one gives it back", x.lock(last, false));
            Expect.same("still has it", x.figure(3), s);
            Expect.same("another one's commit", x.commit(next, 0), LOCKED);
            Expect.same("its own commit", x.commit(s, 0), DONE);
            Expect.no("gives it back", x.lock(s, false));
            Expect.same("nobody has it", x.figure(3), NONE);
            Expect.yes("another one takes it", x.lock(next, true));
            Expect.no("it does not get it", x.lock(s, true));
        }
    }

    private static void commitTicks() {
        Expect.about("13 commit, 0 .. 1000 ticks");
        for (int ticks : new int[] {0, 1, 999, 1000}) {
            SettingsDesk x = wide();
            x.set(0, 0, 0, 0, 1);
            Expect.same(ticks + " ticks", x.commit(0, ticks), DONE);
            Expect.same("left", x.figure(2), ticks);
            Expect.same("taken back by a tick", x.tick() ? 1 : 0, ticks == 1 ? 1 : 0);
            Expect.same("left", x.figure(2), Math.max(ticks - 1, 0));
        }
    }

    private static void confirmAtTheLastTick() {
        Expect.about("14 confirm, before the last tick and behind it");
        SettingsDesk x = wide();
        x.set(0, 0, 0, 0, 1);
        x.commit(0, 2);
        Expect.no("the first tick", x.tick());
        Expect.yes("confirmed", x.confirm());
        Expect.no("the second tick", x.tick());
        Expect.same("it stays", x.get(3, 0, 0, 0), 1);
        x.set(0, 0, 0, 0, 2);
        x.commit(0, 2);
        x.tick();
        Expect.yes("taken back", x.tick());
        Expect.no("too late", x.confirm());
        Expect.same("it is back", x.get(3, 0, 0, 0), 1);
        Expect.same("others may commit then", x.commit(1, 0), DONE);
    }

    private static void tickWithoutAnyWaiting() {
        Expect.about("15 tick, none waits");
        SettingsDesk x = wide();
        Expect.no("none yet", x.tick());
        x.set(0, 0, 0, 0, 1);
        x.commit(0, 2);
        Expect.same("ticks before do not count", x.figure(2), 2);
        Expect.no("the first", x.tick());
        Expect.yes("the second", x.tick());
        Expect.same("the empty set", x.figure(0), 2);
        for (int i = 0; i < 3; i++) {
            Expect.no("no more", x.tick());
        }
        Expect.same("nothing more", x.figure(0), 2);
    }

    private static void rollbackBase() {
        Expect.about("16 rollback, the base becomes the running set");
        SettingsDesk x = wide();
        commitValue(x, 0, 1);
        commitValue(x, 0, 2);
        x.set(1, 0, 0, 0, 9);
        Expect.same("0: the running one", x.rollback(1, 0), 2);
        Expect.same("its candidate", x.get(1, 0, 0, 0), 2);
        Expect.same("no difference", x.commit(1, 0), DONE);
        Expect.same("no change", x.figure(0), 2);
        x.rollback(1, 1);
        commitValue(x, 0, 3);
        Expect.same("running changed since", x.commit(1, 0), CLASH);
        trouble(x, 0, 0, 0, 0);
        x.rollback(1, 2);
        Expect.same("two changes ago", x.commit(1, 0), DONE);
        Expect.same("it runs", x.get(3, 0, 0, 0), 1);
        Expect.same("by a change", x.figure(0), 4);
        x.rollback(1, 2);
        x.set(0, 0, 0, 1, 7);
        x.commit(0, 0);
        x.commit(1, 0);
        Expect.same("merged, what it took back", x.get(3, 0, 0, 0), 2);
        Expect.same("merged, what came since", x.get(3, 0, 0, 1), 7);
    }

    private static void rollbackOldest() {
        Expect.about("16 rollback, the oldest");
        SettingsDesk x = wide();
        for (int value = 1; value <= 9; value++) {
            commitValue(x, 0, value);
        }
        Expect.same("8 older", x.rollback(1, 8), 8);
        Expect.same("the oldest", x.get(1, 0, 0, 0), 1);
        Expect.fails("forgotten", Expect.ARGUMENT, () -> x.rollback(1, 9));
        Expect.same("it comes back", x.commit(1, 0), DONE);
        Expect.same("running", x.get(3, 0, 0, 0), 1);
        Expect.same("8 older", x.rollback(1, 8), 8);
        Expect.same("the oldest now", x.get(1, 0, 0, 0), 2);
        x.rollback(1, 1);
        Expect.same("the latest now", x.get(1, 0, 0, 0), 9);
    }

    private static void rollbackWhileWaiting() {
        Expect.about("16 rollback, while a commit waits");
        SettingsDesk x = wide();
        commitValue(x, 0, 1);
        x.set(0, 0, 0, 0, 2);
        x.commit(0, 2);
        Expect.same("one change ago", x.rollback(1, 1), 2);
        Expect.same("the set before", x.get(1, 0, 0, 0), 1);
        Expect.same("it waits all the same", x.commit(1, 0), LOCKED);
        x.tick();
        x.tick();
        Expect.same("the same as running by now", x.commit(1, 0), DONE);
        Expect.same("by no change more", x.figure(0), 3);
    }

    private static void diffAtMost() {
        Expect.about("17 diff, as many as there can be");
        SettingsDesk x = wide();
        for (int list = 1; list <= 3; list++) {
            for (int key = 1; key <= 6; key++) {
                x.entry(0, list, 2 * key, true);
                x.entry(1, list, 2 * key - 1, true);
                for (int leaf = 0; leaf < 4; leaf++) {
                    x.set(1, list, 2 * key - 1, leaf, 0);
                }
            }
        }
        for (int leaf = 0; leaf < 4; leaf++) {
            x.set(1, 0, 0, leaf, 0);
        }
        x.commit(0, 0);
        for (int k = 0; k < 4; k++) {
            Expect.same("the root's leaves", x.diff(1, k, 2), k);
        }
        // For each list and pair of keys: a new entry, its four leaves, and one that is gone.
        for (int k = 4; k < 112; k++) {
            int place = (k - 4) % 36;
            int part = place % 6;
            Expect.same("list of " + k, x.diff(1, k, 0), 1 + (k - 4) / 36);
            Expect.same("key of " + k, x.diff(1, k, 1), 1 + place / 6 * 2 + (part == 5 ? 1 : 0));
            if (k % 7 == 0) {
                Expect.same("leaf of " + k, x.diff(1, k, 2),
                        part == 0 || part == 5 ? NONE : part - 1);
                Expect.same("kind of " + k, x.diff(1, k, 3), part == 0 ? 1 : part == 5 ? 2 : 3);
            }
        }
        Expect.fails("no more", Expect.INDEX, () -> x.diff(1, 112, 0));
        Expect.same("the last one", x.diff(1, 111, 3), 2);
    }

    private static void diffKinds() {
        Expect.about("17 diff, what is one");
        SettingsDesk x = wide();
        x.entry(0, 1, 1, true);
        x.set(0, 1, 1, 0, 0);
        x.set(0, 1, 1, 1, 1);
        x.set(0, 1, 1, 2, 2);
        x.commit(0, 0);
        x.begin(1);
        Expect.fails("none at first", Expect.INDEX, () -> x.diff(1, 0, 0));
        x.unset(1, 1, 1, 0);
        x.set(1, 1, 1, 1, 2);
        x.set(1, 1, 1, 3, 0);
        int[] leaves = {0, 1, 3};
        for (int k = 0; k < 3; k++) {
            Expect.same("leaf", x.diff(1, k, 2), leaves[k]);
            Expect.same("kind", x.diff(1, k, 3), 3);
        }
        Expect.fails("not the one set alike", Expect.INDEX, () -> x.diff(1, 3, 0));
        x.entry(1, 1, 1, false);
        Expect.same("an entry in running alone", x.diff(1, 0, 3), 2);
        Expect.fails("none of its leaves", Expect.INDEX, () -> x.diff(1, 1, 0));
        x.entry(1, 1, 1, true);
        for (int k = 0; k < 3; k++) {
            Expect.same("there again, its leaves", x.diff(1, k, 2), k);
        }
        Expect.fails("but not the entry", Expect.INDEX, () -> x.diff(1, 3, 0));
        x.entry(1, 1, 2, true);
        Expect.same("an entry without settings", x.diff(1, 3, 3), 1);
        Expect.same("has no leaf", x.diff(1, 3, 2), NONE);
        Expect.fails("and none behind it", Expect.INDEX, () -> x.diff(1, 4, 0));
    }

    private static void diffOfNeighbours() {
        Expect.about("17 diff, of entries side by side");
        SettingsDesk x = wide();
        for (int key = 1; key <= 3; key++) {
            x.entry(0, 1, key, true);
            for (int leaf = 0; leaf < 4; leaf++) {
                x.set(0, 1, key, leaf, key);
            }
        }
        x.commit(0, 0);
        for (int key = 1; key <= 3; key++) {
            for (int leaf = 0; leaf < 4; leaf++) {
                x.begin(1);
                x.set(1, 1, key, leaf, 9);
                Expect.same("its key", x.diff(1, 0, 1), key);
                Expect.same("its leaf", x.diff(1, 0, 2), leaf);
                Expect.fails("it alone", Expect.INDEX, () -> x.diff(1, 1, 0));
            }
        }
    }

    private static void saveWhileWaiting() {
        Expect.about("18 save, while a commit waits");
        SettingsDesk x = wide();
        x.set(0, 0, 0, 0, 1);
        x.commit(0, 2);
        Expect.same("pages", x.save(), 2);
        x.tick();
        Expect.yes("taken back", x.tick());
        Expect.same("saved stays", x.get(4, 0, 0, 0), 1);
        Expect.fails("running is as before", Expect.UNSUPPORTED, () -> x.get(3, 0, 0, 0));
        x.cut(0);
        x.reboot();
        Expect.same("the saved one runs", x.get(3, 0, 0, 0), 1);
        Expect.same("by a change", x.figure(0), 3);
    }

    private static void cutCountsPages() {
        Expect.about("19 cut, the n-th page from now on");
        for (int n = 1; n <= 9; n++) {
            SettingsDesk x = wide();
            x.save();
            Expect.no("it is on", x.cut(n));
            for (int page = 2; page < n; page += 2) {
                Expect.same("a save before", x.save(), 2);
                Expect.same("on", x.figure(4), 0);
            }
            Expect.same("the save that fails", x.save(), n % 2 == 0 ? 2 : NONE);
            Expect.same("off", x.figure(4), 1);
            Expect.fails("no save more", Expect.STATE, x::save);
        }
        SettingsDesk x = wide();
        Expect.yes("0: at once", x.cut(0));
        Expect.same("off", x.figure(4), 1);
    }

    private static void cutFarAway() {
        Expect.about("19 cut, n up to 1000");
        for (int n : new int[] {999, 1000}) {
            SettingsDesk x = wide();
            for (int i = 0; i < 18; i++) {
                x.entry(0, 1 + i / 6, 1 + i % 6, true);
            }
            x.commit(0, 0);
            Expect.no("it is on", x.cut(n));
            for (int i = 0; i < 49; i++) {
                Expect.same("20 pages", x.save(), 20);
            }
            Expect.same("on behind 980", x.figure(4), 0);
            Expect.same("the fiftieth", x.save(), n == 1000 ? 20 : NONE);
            Expect.same("off", x.figure(4), 1);
        }
        SettingsDesk x = wide();
        Expect.fails("1001", Expect.ARGUMENT, () -> x.cut(1001));
        Expect.fails("-2", Expect.ARGUMENT, () -> x.cut(-2));
    }

    private static void cutInPlace() {
        Expect.about("19 cut, in place of what was said before");
        SettingsDesk x = wide();
        x.cut(1);
        Expect.no("later", x.cut(3));
        Expect.same("the first save", x.save(), 2);
        Expect.no("never", x.cut(NONE));
        Expect.same("the second save", x.save(), 2);
        x.cut(1000);
        Expect.no("sooner", x.cut(1));
        Expect.same("the third save", x.save(), NONE);
        Expect.yes("off", x.cut(NONE));
        x.reboot();
        Expect.same("nothing was said since", x.save(), 2);
        x.cut(2);
        Expect.yes("at once", x.cut(0));
        x.reboot();
        Expect.same("the first save", x.save(), 2);
        Expect.same("on", x.figure(4), 0);
    }

    private static void rebootTwice() {
        Expect.about("20 reboot");
        SettingsDesk x = wide();
        Expect.no("it is on", x.reboot());
        Expect.same("sessions go on", x.begin(0), 3);
        for (int round = 1; round <= 3; round++) {
            x.begin(0);
            commitValue(x, 0, round);
            x.cut(0);
            Expect.yes("it was off", x.reboot());
            Expect.no("it is on", x.reboot());
            Expect.same("changes", x.figure(0), 2 * round);
            Expect.same("on", x.figure(4), 0);
            Expect.fails("the empty set", Expect.UNSUPPORTED, () -> x.get(3, 0, 0, 0));
        }
    }

    private static void rebootOfTheSame() {
        Expect.about("20 reboot, the saved set is the running one");
        SettingsDesk x = wide();
        commitValue(x, 0, 6);
        x.set(0, 0, 0, 1, 6);
        x.commit(0, 3);
        x.save();
        x.lock(2, true);
        x.cut(0);
        Expect.yes("it was off", x.reboot());
        Expect.same("no change", x.figure(0), 2);
        Expect.same("older sets", x.figure(1), 2);
        Expect.same("nothing waits", x.figure(2), 0);
        Expect.same("no lock", x.figure(3), NONE);
        Expect.no("nothing to confirm", x.confirm());
        for (int i = 0; i < 4; i++) {
            Expect.no("nothing to take back", x.tick());
        }
        Expect.same("it stays", x.get(3, 0, 0, 1), 6);
        Expect.same("the first session", x.begin(1), 1);
        Expect.same("its candidate", x.get(1, 0, 0, 1), 6);
    }

    private static void figureBounds() {
        Expect.about("21 figure, another what");
        for (int lists = 1; lists <= 4; lists++) {
            SettingsDesk x = new SettingsDesk();
            for (int list = 1; list < lists; list++) {
                x.list();
            }
            for (int what : new int[] {LOWEST, -2, -1, 9, 10 + lists, 14, 15, 100, HIGHEST}) {
                Expect.same("figure(" + what + ")", x.figure(what), NONE);
            }
            Expect.same("the root", x.figure(10), 1);
            for (int list = 1; list < lists; list++) {
                Expect.same("list " + list, x.figure(10 + list), 0);
            }
        }
    }

    private static void figureOfTheLatest() {
        Expect.about("21 figure, the latest commit that was CLASH or INVALID");
        SettingsDesk x = new SettingsDesk();
        x.list();
        x.leaf(1, 0, 0, 9, 1);
        x.leaf(1, 0, 0, 9, 0);
        x.ready();
        x.begin(0);
        x.begin(1);
        trouble(x, 0, 0, 0, 0);
        x.entry(0, 1, 8, true);
        x.entry(1, 1, 8, true);
        Expect.same("a leaf lacks", x.commit(0, 0), INVALID);
        trouble(x, 1, 1, 8, 0);
        x.set(0, 1, 8, 0, 1);
        x.set(0, 1, 8, 1, 1);
        Expect.same("now it is there", x.commit(0, 2), DONE);
        trouble(x, 1, 1, 8, 0);
        x.set(1, 1, 8, 1, 2);
        Expect.same("a commit waits", x.commit(1, 0), LOCKED);
        trouble(x, 1, 1, 8, 0);
        x.confirm();
        Expect.same("a clash of a leaf", x.commit(1, 0), CLASH);
        trouble(x, 0, 1, 8, 1);
        x.begin(1);
        x.set(0, 1, 8, 1, 3);
        x.commit(0, 0);
        x.entry(1, 1, 8, false);
        Expect.same("a clash of the entry", x.commit(1, 0), CLASH);
        trouble(x, 0, 1, 8, NONE);
        x.entry(0, 1, 9, true);
        Expect.same("a leaf lacks again", x.commit(0, 0), INVALID);
        trouble(x, 1, 1, 9, 0);
    }
}
