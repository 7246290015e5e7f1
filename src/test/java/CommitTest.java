/** Promises 13 to 17: commit, confirm, tick, rollback, diff. */
public final class CommitTest {
    private static final int DONE = SettingsDesk.DONE;
    private static final int CLASH = SettingsDesk.CLASH;
    private static final int INVALID = SettingsDesk.INVALID;
    private static final int LOCKED = SettingsDesk.LOCKED;
    private static final int NONE = SettingsDesk.NONE;

    public static void main(String[] args) {
        commit();
        commitWrong();
        locked();
        mergeEntries();
        mergeEntryClashes();
        mergeLeaves();
        mergeSetting();
        firstClash();
        faults();
        faultOrder();
        faultByStandard();
        crowd();
        allOthers();
        references();
        refusedCommit();
        waiting();
        confirm();
        tick();
        rollback();
        rollbackFar();
        diff();
        diffWrong();
        Expect.end();
    }

    /** The root and list 1 have two numbers 0 .. 9 each, list 2 has none; the sessions have begun. */
    private static SettingsDesk desk() {
        SettingsDesk x = new SettingsDesk();
        x.list();
        x.list();
        for (int list = 0; list <= 1; list++) {
            x.leaf(list, 0, 0, 9, 0);
            x.leaf(list, 0, 0, 9, 0);
        }
        x.ready();
        for (int s = 0; s <= 2; s++) {
            x.begin(s);
        }
        return x;
    }

    /** Puts entries 1 .. 3 with both leaves set to 1 into the running set and all candidates. */
    private static SettingsDesk deskWithEntries() {
        SettingsDesk x = desk();
        for (int key = 1; key <= 3; key++) {
            x.entry(0, 1, key, true);
            x.set(0, 1, key, 0, 1);
            x.set(0, 1, key, 1, 1);
        }
        x.commit(0, 0);
        for (int s = 0; s <= 2; s++) {
            x.begin(s);
        }
        return x;
    }

    private static void trouble(SettingsDesk x, int fault, int list, int key, int part) {
        Expect.same("the fault", x.figure(5), fault);
        Expect.same("its list", x.figure(6), list);
        Expect.same("its key", x.figure(7), key);
        Expect.same("its leaf or rule", x.figure(8), part);
    }

    private static void commit() {
        Expect.about("13 commit");
        SettingsDesk x = desk();
        Expect.same("nothing edited", x.commit(0, 0), DONE);
        Expect.same("no change", x.figure(0), 0);
        x.set(0, 0, 0, 0, 4);
        Expect.same("a setting", x.commit(0, 0), DONE);
        Expect.same("a change", x.figure(0), 1);
        Expect.same("an older set", x.figure(1), 1);
        Expect.same("running", x.get(3, 0, 0, 0), 4);
        Expect.fails("saved is not touched", Expect.UNSUPPORTED, () -> x.get(4, 0, 0, 0));
        Expect.same("the candidate stays", x.get(0, 0, 0, 0), 4);
        Expect.same("the same again", x.commit(0, 0), DONE);
        Expect.same("is no change", x.figure(0), 1);
        x.set(0, 0, 0, 0, 5);
        Expect.same("the base is the outcome", x.commit(0, 0), DONE);
        x.unset(0, 0, 0, 0);
        x.entry(0, 1, 100, true);
        Expect.same("an entry without settings", x.commit(0, 0), DONE);
        Expect.same("is one", x.figure(11), 1);
        Expect.fails("not set any more", Expect.UNSUPPORTED, () -> x.get(3, 0, 0, 0));
        x.set(0, 1, 100, 0, 0);
        Expect.same("set to 0", x.commit(0, 0), DONE);
        Expect.same("is a change", x.figure(0), 4);
    }

    private static void commitWrong() {
        Expect.about("13 commit, wrong arguments");
        SettingsDesk x = new SettingsDesk();
        x.leaf(0, 0, 0, 9, 0);
        x.ready();
        Expect.fails("session 3", Expect.INDEX, () -> x.commit(3, -1));
        Expect.fails("session -1", Expect.INDEX, () -> x.commit(-1, 0));
        Expect.fails("not begun", Expect.STATE, () -> x.commit(0, -1));
        x.begin(0);
        x.set(0, 0, 0, 0, 4);
        Expect.fails("ticks -1", Expect.ARGUMENT, () -> x.commit(0, -1));
        Expect.fails("ticks 1001", Expect.ARGUMENT, () -> x.commit(0, 1001));
        Expect.same("no change", x.figure(0), 0);
        Expect.same("1000 ticks", x.commit(0, 1000), DONE);
        Expect.same("it waits", x.figure(2), 1000);
        Expect.fails("locked, and ticks -1", Expect.ARGUMENT, () -> x.commit(0, -1));
        x.cut(0);
        Expect.fails("without power", Expect.STATE, () -> x.commit(9, 0));
    }

    private static void locked() {
        Expect.about("13 commit, LOCKED");
        SettingsDesk x = desk();
        x.lock(1, true);
        Expect.same("another has the lock", x.commit(0, 0), LOCKED);
        Expect.same("the one that has it", x.commit(1, 0), DONE);
        x.lock(1, false);
        x.set(0, 0, 0, 0, 1);
        Expect.same("nobody has it", x.commit(0, 2), DONE);
        Expect.same("a commit waits", x.commit(0, 0), LOCKED);
        x.lock(1, true);
        x.set(1, 0, 0, 0, 2);
        Expect.same("for who has the lock, too", x.commit(1, 0), LOCKED);
        x.tick();
        Expect.same("with one tick left, too", x.commit(1, 0), LOCKED);
        trouble(x, 0, 0, 0, 0);
        x.confirm();
        Expect.same("then it clashes", x.commit(1, 0), CLASH);
    }

    private static void mergeEntries() {
        Expect.about("13 commit, merged entries");
        SettingsDesk x = deskWithEntries();
        x.set(0, 1, 1, 0, 5);
        x.entry(0, 1, 2, false);
        x.entry(0, 1, 7, true);
        x.entry(0, 1, 3, false);
        x.entry(1, 1, 3, false);
        x.entry(1, 1, 8, true);
        x.set(1, 1, 8, 0, 6);
        x.set(1, 0, 0, 1, 2);
        Expect.same("session 0", x.commit(0, 0), DONE);
        Expect.same("session 1", x.commit(1, 0), DONE);
        Expect.same("entries 1, 7, 8", x.figure(11), 3);
        Expect.same("changed there", x.get(3, 1, 1, 0), 5);
        Expect.same("as it was", x.get(3, 1, 1, 1), 1);
        Expect.fails("taken away there", Expect.UNSUPPORTED, () -> x.get(3, 1, 2, 0));
        Expect.fails("taken away by both", Expect.UNSUPPORTED, () -> x.get(3, 1, 3, 0));
        Expect.same("new here", x.get(3, 1, 8, 0), 6);
        Expect.same("the root", x.get(3, 0, 0, 1), 2);
        Expect.same("the candidate is the outcome", x.get(1, 1, 1, 0), 5);
        Expect.fails("all of it", Expect.INDEX, () -> x.diff(1, 0, 0));
        x.set(1, 1, 1, 0, 6);
        Expect.same("the base is the outcome", x.commit(1, 0), DONE);
        x.entry(2, 1, 2, false);
        x.entry(2, 1, 1, true);
        Expect.same("away in both, the rest untouched", x.commit(2, 0), DONE);
        Expect.same("by no change", x.figure(0), 4);
    }

    private static void mergeEntryClashes() {
        Expect.about("13 commit, CLASH of an entry");
        SettingsDesk x = deskWithEntries();
        x.set(0, 1, 2, 1, 5);
        x.entry(1, 1, 2, false);
        x.commit(0, 0);
        Expect.same("changed there, away here", x.commit(1, 0), CLASH);
        trouble(x, 0, 1, 2, NONE);

        SettingsDesk y = deskWithEntries();
        y.entry(0, 1, 3, false);
        y.unset(1, 1, 3, 0);
        y.commit(0, 0);
        Expect.same("away there, changed here", y.commit(1, 0), CLASH);
        trouble(y, 0, 1, 3, NONE);
        Expect.same("no change", y.figure(0), 2);
        Expect.same("the candidate stays", y.get(1, 1, 3, 1), 1);
        y.set(1, 1, 3, 0, 1);
        Expect.same("as in the base again", y.commit(1, 0), DONE);
        Expect.same("so it is away", y.figure(11), 2);
    }

    private static void mergeLeaves() {
        Expect.about("13 commit, merged leaves");
        SettingsDesk x = deskWithEntries();
        x.set(0, 1, 1, 0, 5);
        x.set(1, 1, 1, 1, 6);
        x.unset(0, 1, 2, 0);
        x.unset(1, 1, 2, 0);
        x.set(1, 1, 2, 1, 7);
        x.entry(0, 1, 9, true);
        x.set(0, 1, 9, 0, 2);
        x.entry(1, 1, 9, true);
        x.set(1, 1, 9, 1, 3);
        x.set(0, 0, 0, 0, 8);
        x.set(1, 0, 0, 0, 8);
        Expect.same("session 0", x.commit(0, 0), DONE);
        Expect.same("session 1", x.commit(1, 0), DONE);
        Expect.same("changed there", x.get(3, 1, 1, 0), 5);
        Expect.same("changed here", x.get(3, 1, 1, 1), 6);
        Expect.fails("not set in both", Expect.UNSUPPORTED, () -> x.get(3, 1, 2, 0));
        Expect.same("beside it", x.get(3, 1, 2, 1), 7);
        Expect.same("of an entry new in both, there", x.get(3, 1, 9, 0), 2);
        Expect.same("of an entry new in both, here", x.get(3, 1, 9, 1), 3);
        Expect.same("the same in both", x.get(3, 0, 0, 0), 8);
    }

    private static void mergeSetting() {
        Expect.about("13 commit, CLASH of a leaf");
        SettingsDesk x = deskWithEntries();
        x.set(0, 1, 1, 1, 5);
        x.set(1, 1, 1, 1, 6);
        x.unset(2, 1, 1, 1);
        x.commit(0, 0);
        Expect.same("two values", x.commit(1, 0), CLASH);
        trouble(x, 0, 1, 1, 1);
        Expect.same("a value, and not set", x.commit(2, 0), CLASH);
        trouble(x, 0, 1, 1, 1);

        SettingsDesk y = desk();
        y.entry(0, 1, 4, true);
        y.set(0, 1, 4, 1, 0);
        y.entry(1, 1, 4, true);
        y.set(1, 1, 4, 1, 1);
        y.entry(2, 1, 4, true);
        y.commit(0, 0);
        Expect.same("of an entry new in both", y.commit(1, 0), CLASH);
        trouble(y, 0, 1, 4, 1);
        Expect.same("not set here is as in the base", y.commit(2, 0), DONE);
        Expect.same("so it is as in running", y.get(3, 1, 4, 1), 0);

        SettingsDesk z = deskWithEntries();
        z.set(0, 1, 1, 0, 5);
        z.commit(0, 0);
        z.set(0, 1, 1, 0, 1);
        z.commit(0, 0);
        z.set(1, 1, 1, 0, 6);
        Expect.same("running is as the base again", z.commit(1, 0), DONE);
    }

    private static void firstClash() {
        Expect.about("13 commit, the first CLASH");
        SettingsDesk x = deskWithEntries();
        x.set(0, 0, 0, 1, 5);
        x.set(0, 1, 1, 0, 5);
        x.set(0, 1, 1, 1, 5);
        x.entry(0, 1, 2, false);
        x.commit(0, 0);
        x.set(1, 1, 2, 0, 7);
        x.set(1, 1, 1, 1, 7);
        x.commit(1, 0);
        trouble(x, 0, 1, 1, 1);
        x.set(1, 1, 1, 0, 7);
        x.commit(1, 0);
        trouble(x, 0, 1, 1, 0);
        x.set(1, 0, 0, 1, 7);
        x.commit(1, 0);
        trouble(x, 0, 0, 0, 1);
        x.entry(2, 1, 1, false);
        x.set(2, 1, 2, 0, 7);
        x.commit(2, 0);
        trouble(x, 0, 1, 1, NONE);
    }

    /** List 1: required, a reference to list 2, unique, a number; rules 1 and 2 are of list 1. */
    private static SettingsDesk strictDesk() {
        SettingsDesk x = new SettingsDesk();
        x.list();
        x.list();
        x.leaf(1, 0, 0, 9, 1);
        x.leaf(1, 1, 2, 0, 0);
        x.leaf(1, 0, 0, 9, 2);
        x.leaf(1, 0, 0, 9, 0);
        x.leaf(2, 0, 0, 9, 0);
        x.rule(2, 0, 5, 0, false);
        x.rule(1, 3, 5, 1, true);
        x.rule(1, 3, 6, 2, false);
        x.ready();
        x.begin(0);
        return x;
    }

    private static void faults() {
        Expect.about("13 commit, INVALID");
        SettingsDesk x = strictDesk();
        x.entry(0, 1, 30, true);
        Expect.same("a required leaf", x.commit(0, 0), INVALID);
        trouble(x, 1, 1, 30, 0);
        x.set(0, 1, 30, 0, 0);
        x.set(0, 1, 30, 1, 40);
        Expect.same("a reference", x.commit(0, 0), INVALID);
        trouble(x, 2, 1, 30, 1);
        x.entry(0, 2, 40, true);
        Expect.same("a reference to an entry", x.commit(0, 0), DONE);
        x.set(0, 1, 30, 2, 0);
        x.entry(0, 1, 20, true);
        x.set(0, 1, 20, 0, 0);
        x.set(0, 1, 20, 2, 0);
        Expect.same("a unique leaf", x.commit(0, 0), INVALID);
        trouble(x, 3, 1, 30, 2);
        x.set(0, 1, 20, 2, 1);
        Expect.same("two values", x.commit(0, 0), DONE);
        x.set(0, 1, 20, 3, 5);
        Expect.same("a rule: b must be there", x.commit(0, 0), INVALID);
        trouble(x, 4, 1, 20, 1);
        x.set(0, 1, 20, 3, 6);
        Expect.same("a rule: b must not be there", x.commit(0, 0), INVALID);
        trouble(x, 4, 1, 20, 2);
        x.set(0, 1, 20, 3, 4);
        x.set(0, 2, 40, 0, 5);
        Expect.same("a rule of a leaf with itself", x.commit(0, 0), INVALID);
        trouble(x, 4, 2, 40, 0);
        x.set(0, 2, 40, 0, 4);
        Expect.same("no rule is broken", x.commit(0, 0), DONE);
        trouble(x, 4, 2, 40, 0);
        x.entry(0, 2, 40, false);
        Expect.same("the entry that is referred to", x.commit(0, 0), INVALID);
        trouble(x, 2, 1, 30, 1);
    }

    private static void faultOrder() {
        Expect.about("13 commit, the first fault");
        SettingsDesk x = strictDesk();
        x.entry(0, 1, 2, true);
        x.entry(0, 1, 1, true);
        x.set(0, 1, 1, 0, 1);
        x.set(0, 1, 1, 2, 7);
        x.set(0, 1, 2, 2, 7);
        x.set(0, 1, 2, 1, 9);
        x.set(0, 1, 2, 3, 6);
        x.commit(0, 0);
        trouble(x, 1, 1, 2, 0);
        x.set(0, 1, 2, 0, 1);
        x.commit(0, 0);
        trouble(x, 2, 1, 2, 1);
        x.unset(0, 1, 2, 1);
        x.commit(0, 0);
        trouble(x, 3, 1, 2, 2);
        x.set(0, 1, 2, 2, 8);
        x.commit(0, 0);
        trouble(x, 4, 1, 2, 2);
        x.set(0, 1, 1, 3, 5);
        x.unset(0, 1, 2, 0);
        x.commit(0, 0);
        trouble(x, 4, 1, 1, 1);
    }

    private static void faultByStandard() {
        Expect.about("13 commit, faults by a standard");
        SettingsDesk x = new SettingsDesk();
        x.list();
        x.leaf(1, 0, 0, 9, 3);
        x.leaf(1, 0, 0, 9, 0);
        x.leaf(1, 0, 0, 9, 0);
        x.standard(1, 0, 0);
        x.rule(1, 0, 3, 1, true);
        x.rule(1, 1, 0, 2, true);
        x.ready();
        x.begin(0);
        x.entry(0, 1, 1, true);
        Expect.same("a standard is enough", x.commit(0, 0), DONE);
        x.entry(0, 1, 2, true);
        Expect.same("but the same in both", x.commit(0, 0), INVALID);
        trouble(x, 3, 1, 2, 0);
        x.set(0, 1, 1, 0, 4);
        x.set(0, 1, 2, 0, 4);
        Expect.same("the same by settings", x.commit(0, 0), INVALID);
        x.set(0, 1, 1, 0, 0);
        x.unset(0, 1, 2, 0);
        Expect.same("a setting and a standard", x.commit(0, 0), INVALID);
        x.set(0, 1, 2, 0, 3);
        Expect.same("a rule holds no more", x.commit(0, 0), INVALID);
        trouble(x, 4, 1, 2, 0);
        x.set(0, 1, 2, 0, 5);
        Expect.same("nothing is not the value 0", x.commit(0, 0), DONE);
    }

    private static void crowd() {
        Expect.about("13 commit, more than 6 entries");
        SettingsDesk x = new SettingsDesk();
        x.leaf(0, 0, 0, 9, 1);
        x.list();
        x.list();
        x.ready();
        x.begin(0);
        x.set(0, 0, 0, 0, 1);
        x.commit(0, 0);
        x.begin(0);
        x.begin(1);
        for (int key = 1; key <= 6; key++) {
            x.entry(0, 2, key, true);
            x.entry(1, 2, 100 - key, true);
        }
        x.unset(1, 0, 0, 0);
        x.commit(0, 0);
        Expect.same("12 entries, and a leaf lacks", x.commit(1, 0), INVALID);
        trouble(x, 5, 2, NONE, NONE);
        Expect.same("running stays", x.figure(12), 6);
        for (int key = 1; key <= 6; key++) {
            x.entry(1, 2, 100 - key, false);
        }
        Expect.same("the leaf alone", x.commit(1, 0), INVALID);
        trouble(x, 1, 0, 0, 0);
        x.set(1, 0, 0, 0, 2);
        Expect.same("the leaf is there", x.commit(1, 0), DONE);
        Expect.same("6 entries", x.figure(12), 6);
        x.begin(0);
        x.begin(1);
        x.entry(0, 2, 6, false);
        x.entry(1, 2, 1, false);
        x.entry(1, 2, 50, true);
        x.commit(0, 0);
        Expect.same("5 and 1 are 5", x.commit(1, 0), DONE);
        Expect.same("5 entries", x.figure(12), 5);
        x.begin(0);
        x.entry(0, 2, 60, true);
        x.entry(1, 2, 70, true);
        x.commit(0, 0);
        Expect.same("7 entries", x.commit(1, 0), INVALID);
        trouble(x, 5, 2, NONE, NONE);
    }

    private static void allOthers() {
        Expect.about("13 commit and 17 diff, 12 keys");
        SettingsDesk x = desk();
        for (int key = 1; key <= 6; key++) {
            x.entry(0, 1, key, true);
        }
        x.commit(0, 0);
        x.begin(1);
        for (int key = 1; key <= 6; key++) {
            x.entry(0, 1, key, false);
        }
        for (int key = 11; key <= 16; key++) {
            x.entry(0, 1, key, true);
            x.set(0, 1, key, 1, 4);
        }
        x.commit(0, 0);
        for (int k = 0; k < 12; k++) {
            difference(x, k, 1, k < 6 ? k + 1 : k + 5, NONE, k < 6 ? 1 : 2);
        }
        Expect.fails("no more", Expect.INDEX, () -> x.diff(1, 12, 0));
        Expect.same("all as in the base", x.commit(1, 0), DONE);
        Expect.same("so running stays", x.figure(0), 2);
        Expect.same("with the last of them", x.get(1, 1, 16, 1), 4);
    }

    private static void references() {
        Expect.about("13 commit, references");
        SettingsDesk x = new SettingsDesk();
        x.list();
        x.list();
        x.leaf(1, 1, 1, 0, 2);
        x.leaf(1, 1, 2, 0, 0);
        x.ready();
        x.begin(0);
        x.entry(0, 1, 4, true);
        x.entry(0, 2, 5, true);
        x.set(0, 1, 4, 0, 5);
        x.set(0, 1, 4, 1, 4);
        Expect.same("keys of the other list", x.commit(0, 0), INVALID);
        trouble(x, 2, 1, 4, 0);
        x.set(0, 1, 4, 0, 4);
        Expect.same("the second one", x.commit(0, 0), INVALID);
        trouble(x, 2, 1, 4, 1);
        x.set(0, 1, 4, 1, 5);
        Expect.same("an entry to itself", x.commit(0, 0), DONE);
        x.entry(0, 1, 3, true);
        x.set(0, 1, 3, 0, 4);
        Expect.same("a unique reference", x.commit(0, 0), INVALID);
        trouble(x, 3, 1, 4, 0);
    }

    private static void refusedCommit() {
        Expect.about("13 commit, what a refused one leaves");
        SettingsDesk x = strictDesk();
        x.entry(0, 1, 1, true);
        Expect.same("refused", x.commit(0, 5), INVALID);
        Expect.same("no change", x.figure(0), 0);
        Expect.same("nothing waits", x.figure(2), 0);
        Expect.same("running", x.figure(11), 0);
        Expect.same("the candidate stays", x.diff(0, 0, 3), 1);
    }

    private static void waiting() {
        Expect.about("13 commit, waiting");
        SettingsDesk x = desk();
        Expect.same("without a change", x.commit(0, 5), DONE);
        Expect.same("it does not wait", x.figure(2), 0);
        x.set(0, 0, 0, 0, 1);
        Expect.same("for 0 ticks", x.commit(0, 0), DONE);
        Expect.same("it does not wait", x.figure(2), 0);
        x.set(0, 0, 0, 0, 2);
        Expect.same("for 3 ticks", x.commit(0, 3), DONE);
        Expect.same("it waits", x.figure(2), 3);
        Expect.same("it runs meanwhile", x.get(3, 0, 0, 0), 2);
        x.begin(1);
        Expect.same("a session begins from it", x.get(1, 0, 0, 0), 2);
    }

    private static void confirm() {
        Expect.about("14 confirm");
        SettingsDesk x = desk();
        Expect.no("none waits", x.confirm());
        x.set(0, 0, 0, 0, 1);
        x.commit(0, 2);
        x.tick();
        Expect.yes("one waits", x.confirm());
        Expect.no("not any more", x.confirm());
        Expect.same("nor by figure", x.figure(2), 0);
        Expect.no("no tick takes it back", x.tick());
        Expect.no("nor does another", x.tick());
        Expect.same("it runs", x.get(3, 0, 0, 0), 1);
        x.set(0, 0, 0, 0, 2);
        Expect.same("another may come", x.commit(0, 0), DONE);
        x.cut(0);
        Expect.fails("without power", Expect.STATE, x::confirm);
    }

    private static void tick() {
        Expect.about("15 tick");
        SettingsDesk x = desk();
        Expect.no("none waits", x.tick());
        x.set(0, 0, 0, 0, 1);
        x.commit(0, 0);
        x.set(0, 0, 0, 0, 2);
        x.commit(0, 2);
        Expect.no("the first", x.tick());
        Expect.same("one more", x.figure(2), 1);
        Expect.yes("the second", x.tick());
        Expect.same("nothing waits", x.figure(2), 0);
        Expect.same("as before", x.get(3, 0, 0, 0), 1);
        Expect.same("by a change", x.figure(0), 3);
        Expect.same("with an older set", x.figure(1), 3);
        Expect.same("the candidate stays", x.get(0, 0, 0, 0), 2);
        Expect.no("a third", x.tick());
        Expect.same("the candidate is its base", x.commit(0, 0), DONE);
        Expect.same("so running stays", x.get(3, 0, 0, 0), 1);
        x.rollback(0, 1);
        Expect.same("what was taken back is older", x.get(0, 0, 0, 0), 2);
        x.cut(0);
        Expect.fails("without power", Expect.STATE, x::tick);
        takenBackWithManyOlder();
    }

    private static void takenBackWithManyOlder() {
        SettingsDesk x = desk();
        for (int value = 0; value <= 9; value++) {
            x.set(0, 0, 0, 0, value);
            x.commit(0, 1);
            Expect.yes("taken back", x.tick());
            Expect.fails("to nothing", Expect.UNSUPPORTED, () -> x.get(3, 0, 0, 0));
            x.begin(0);
        }
        Expect.same("changes", x.figure(0), 20);
        Expect.same("older sets", x.figure(1), 8);
    }

    private static void rollback() {
        Expect.about("16 rollback");
        SettingsDesk bare = new SettingsDesk();
        bare.ready();
        Expect.fails("session 3", Expect.INDEX, () -> bare.rollback(3, -1));
        Expect.fails("session -1", Expect.INDEX, () -> bare.rollback(-1, 0));
        Expect.fails("not begun", Expect.STATE, () -> bare.rollback(0, -1));
        SettingsDesk x = desk();
        Expect.fails("n -1", Expect.ARGUMENT, () -> x.rollback(0, -1));
        Expect.fails("n 1, none older", Expect.ARGUMENT, () -> x.rollback(0, 1));
        x.set(0, 0, 0, 0, 5);
        Expect.same("to the running one", x.rollback(0, 0), 0);
        Expect.fails("the setting is gone", Expect.UNSUPPORTED, () -> x.get(0, 0, 0, 0));
        for (int value = 1; value <= 3; value++) {
            x.set(0, 0, 0, 0, value);
            x.commit(0, 0);
        }
        Expect.fails("n 4, three older", Expect.ARGUMENT, () -> x.rollback(1, 4));
        Expect.same("one ago", x.rollback(1, 1), 3);
        Expect.same("the candidate", x.get(1, 0, 0, 0), 2);
        Expect.same("two ago", x.rollback(1, 2), 3);
        Expect.same("the candidate", x.get(1, 0, 0, 0), 1);
        Expect.same("running stays", x.get(3, 0, 0, 0), 3);
        Expect.same("no change yet", x.figure(0), 3);
        Expect.same("the base is running", x.commit(1, 0), DONE);
        Expect.same("now it is", x.get(3, 0, 0, 0), 1);
        Expect.same("a change", x.figure(0), 4);
        Expect.same("three ago is now four", x.rollback(2, 4), 4);
        Expect.fails("the empty set", Expect.UNSUPPORTED, () -> x.get(2, 0, 0, 0));
        x.set(2, 0, 0, 1, 6);
        x.rollback(2, 1);
        x.rollback(1, 4);
        Expect.fails("older sets are not edited", Expect.UNSUPPORTED, () -> x.get(1, 0, 0, 1));
        x.cut(0);
        Expect.fails("without power", Expect.STATE, () -> x.rollback(9, 0));
    }

    private static void rollbackFar() {
        Expect.about("16 rollback, 8 older sets");
        SettingsDesk x = desk();
        for (int value = 0; value <= 9; value++) {
            Expect.same("older sets", x.figure(1), Math.min(value, 8));
            x.set(0, 0, 0, 0, value);
            x.commit(0, 0);
        }
        Expect.same("changes", x.figure(0), 10);
        for (int n = 0; n <= 8; n++) {
            Expect.same("n " + n, x.rollback(1, n), 8);
            Expect.same("the set of n " + n, x.get(1, 0, 0, 0), 9 - n);
        }
        Expect.fails("the oldest is forgotten", Expect.ARGUMENT, () -> x.rollback(1, 9));
    }

    private static void difference(SettingsDesk x, int k, int list, int key, int leaf, int kind) {
        Expect.same("list of " + k, x.diff(1, k, 0), list);
        Expect.same("key of " + k, x.diff(1, k, 1), key);
        Expect.same("leaf of " + k, x.diff(1, k, 2), leaf);
        Expect.same("kind of " + k, x.diff(1, k, 3), kind);
    }

    private static void diff() {
        Expect.about("17 diff");
        SettingsDesk x = deskWithEntries();
        x.set(1, 0, 0, 1, 0);
        x.entry(1, 2, 50, true);
        x.entry(1, 1, 2, false);
        x.set(1, 1, 3, 0, 1);
        x.unset(1, 1, 3, 1);
        x.set(1, 1, 1, 1, 4);
        x.entry(1, 1, 90, true);
        x.set(1, 1, 90, 0, 0);
        x.set(1, 1, 90, 1, 9);
        difference(x, 0, 0, 0, 1, 3);
        difference(x, 1, 1, 1, 1, 3);
        difference(x, 2, 1, 2, NONE, 2);
        difference(x, 3, 1, 3, 1, 3);
        difference(x, 4, 1, 90, NONE, 1);
        difference(x, 5, 1, 90, 0, 3);
        difference(x, 6, 1, 90, 1, 3);
        difference(x, 7, 2, 50, NONE, 1);
        Expect.fails("no more", Expect.INDEX, () -> x.diff(1, 8, 0));
        x.entry(0, 1, 4, true);
        x.commit(0, 0);
        difference(x, 4, 1, 4, NONE, 2);
        standardIsNoDifference();
    }

    private static void standardIsNoDifference() {
        SettingsDesk x = new SettingsDesk();
        x.leaf(0, 0, 0, 9, 0);
        x.standard(0, 0, 3);
        x.ready();
        x.begin(0);
        Expect.fails("nothing set", Expect.INDEX, () -> x.diff(0, 0, 0));
        x.set(0, 0, 0, 0, 3);
        Expect.same("set to the standard", x.diff(0, 0, 3), 3);
        x.commit(0, 0);
        Expect.same("is a change", x.figure(0), 1);
    }

    private static void diffWrong() {
        Expect.about("17 diff, wrong arguments");
        SettingsDesk x = new SettingsDesk();
        x.leaf(0, 0, 0, 9, 0);
        x.ready();
        Expect.fails("session 3", Expect.INDEX, () -> x.diff(3, 0, 0));
        Expect.fails("session -1", Expect.INDEX, () -> x.diff(-1, 0, 0));
        Expect.fails("not begun, what 4", Expect.STATE, () -> x.diff(0, 0, 4));
        x.begin(0);
        x.set(0, 0, 0, 0, 1);
        Expect.same("the only one", x.diff(0, 0, 2), 0);
        Expect.fails("k -1", Expect.INDEX, () -> x.diff(0, -1, 0));
        Expect.fails("the lowest k", Expect.INDEX, () -> x.diff(0, Integer.MIN_VALUE, 0));
        Expect.fails("the highest k", Expect.INDEX, () -> x.diff(0, Integer.MAX_VALUE, 0));
        Expect.fails("what 4", Expect.INDEX, () -> x.diff(0, 0, 4));
        Expect.fails("what -1", Expect.INDEX, () -> x.diff(0, 0, -1));
        x.cut(0);
        Expect.fails("without power", Expect.STATE, () -> x.diff(9, 0, 0));
    }
}
