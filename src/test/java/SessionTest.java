/** Promises 7 to 12: begin, entry, set, unset, get, lock. */
public final class SessionTest {
    public static void main(String[] args) {
        begin();
        beginAnew();
        entry();
        entryWrong();
        set();
        setWrong();
        unset();
        get();
        getWrong();
        lock();
        Expect.end();
    }

    /**
     * The root has a number 0 .. 9; list 1 a number -5 .. 5, one with the standard 3, a reference to
     * list 2; list 2 no leaf.
     */
    private static SettingsDesk desk() {
        SettingsDesk x = new SettingsDesk();
        x.list();
        x.list();
        x.leaf(0, 0, 0, 9, 0);
        x.leaf(1, 0, -5, 5, 0);
        x.leaf(1, 0, 0, 9, 0);
        x.leaf(1, 1, 2, 0, 0);
        x.standard(1, 1, 3);
        x.ready();
        return x;
    }

    private static void begin() {
        Expect.about("7 begin");
        SettingsDesk x = desk();
        Expect.fails("session 3", Expect.INDEX, () -> x.begin(3));
        Expect.fails("session -1", Expect.INDEX, () -> x.begin(-1));
        Expect.same("the first", x.begin(2), 1);
        Expect.same("the same again", x.begin(2), 1);
        Expect.same("a second", x.begin(0), 2);
        Expect.same("a third", x.begin(1), 3);
        Expect.same("all again", x.begin(0), 3);
        x.cut(0);
        Expect.fails("without power", Expect.STATE, () -> x.begin(9));
        x.reboot();
        Expect.same("they ended with the power", x.begin(1), 1);
    }

    private static void beginAnew() {
        Expect.about("7 begin anew");
        SettingsDesk x = desk();
        x.begin(0);
        x.begin(1);
        x.set(0, 0, 0, 0, 4);
        x.entry(0, 1, 6, true);
        x.begin(0);
        Expect.fails("the setting is gone", Expect.UNSUPPORTED, () -> x.get(0, 0, 0, 0));
        Expect.yes("the entry is gone", x.entry(0, 1, 6, true));
        x.set(1, 0, 0, 0, 5);
        x.commit(1, 0);
        Expect.fails("not yet seen", Expect.UNSUPPORTED, () -> x.get(0, 0, 0, 0));
        x.begin(0);
        Expect.same("the candidate is the running set", x.get(0, 0, 0, 0), 5);
        x.set(0, 0, 0, 0, 6);
        Expect.same("and so is the base", x.commit(0, 0), SettingsDesk.DONE);
        x.lock(0, true);
        x.begin(0);
        Expect.same("the lock stays", x.figure(3), 0);
    }

    private static void entry() {
        Expect.about("8 entry");
        SettingsDesk x = desk();
        x.begin(0);
        x.begin(1);
        Expect.no("none to take away", x.entry(0, 1, 1, false));
        Expect.yes("key 100", x.entry(0, 1, 100, true));
        Expect.yes("key 1", x.entry(0, 1, 1, true));
        Expect.no("key 1 again", x.entry(0, 1, 1, true));
        Expect.yes("in another candidate", x.entry(1, 1, 1, true));
        Expect.yes("in another list", x.entry(0, 2, 1, true));
        x.set(0, 1, 1, 0, 4);
        x.set(0, 1, 100, 0, -4);
        Expect.no("there already", x.entry(0, 1, 1, true));
        Expect.same("nothing changed", x.get(0, 1, 1, 0), 4);
        for (int key = 50; key > 46; key--) {
            Expect.yes("key " + key, x.entry(0, 1, key, true));
        }
        Expect.fails("a seventh", Expect.UNSUPPORTED, () -> x.entry(0, 1, 2, true));
        Expect.no("one that is there", x.entry(0, 1, 100, true));
        Expect.no("one that is not there", x.entry(0, 1, 2, false));
        Expect.yes("one taken away", x.entry(0, 1, 1, false));
        Expect.same("another stays", x.get(0, 1, 100, 0), -4);
        Expect.yes("and it comes again", x.entry(0, 1, 1, true));
        Expect.fails("without anything set", Expect.UNSUPPORTED, () -> x.get(0, 1, 1, 0));
        Expect.same("running has none", x.figure(11), 0);
        entriesByKeys(x);
    }

    private static void entriesByKeys(SettingsDesk x) {
        int[] keys = {1, 47, 48, 49, 50, 100};
        for (int i = 0; i < keys.length; i++) {
            Expect.same("the key of difference " + i, x.diff(0, i, 1), keys[i]);
        }
        Expect.same("the setting of the last one moved with it", x.diff(0, 6, 3), 3);
    }

    private static void entryWrong() {
        Expect.about("8 entry, wrong arguments");
        SettingsDesk x = desk();
        Expect.fails("session 3, and root", Expect.INDEX, () -> x.entry(3, 0, 0, true));
        Expect.fails("session -1", Expect.INDEX, () -> x.entry(-1, 1, 1, true));
        Expect.fails("list 3 before begun", Expect.INDEX, () -> x.entry(0, 3, 1, true));
        Expect.fails("list -1 before begun", Expect.INDEX, () -> x.entry(0, -1, 1, true));
        Expect.fails("not begun, and root", Expect.STATE, () -> x.entry(0, 0, 0, true));
        x.begin(0);
        Expect.fails("the root", Expect.ARGUMENT, () -> x.entry(0, 0, 0, true));
        Expect.fails("the root, key 1", Expect.ARGUMENT, () -> x.entry(0, 0, 1, true));
        Expect.fails("the root's away", Expect.ARGUMENT, () -> x.entry(0, 0, 0, false));
        Expect.fails("key 0", Expect.ARGUMENT, () -> x.entry(0, 1, 0, true));
        Expect.fails("key 101", Expect.ARGUMENT, () -> x.entry(0, 1, 101, true));
        Expect.fails("key 0 away", Expect.ARGUMENT, () -> x.entry(0, 1, 0, false));
        for (int key = 1; key <= 6; key++) {
            x.entry(0, 1, key, true);
        }
        Expect.fails("key 101 in a full list", Expect.ARGUMENT, () -> x.entry(0, 1, 101, true));
        x.cut(0);
        Expect.fails("without power", Expect.STATE, () -> x.entry(9, 1, 1, true));
    }

    private static void set() {
        Expect.about("9 set");
        SettingsDesk x = desk();
        x.begin(0);
        x.begin(1);
        x.set(0, 0, 0, 0, 0);
        Expect.same("the root's leaf", x.get(0, 0, 0, 0), 0);
        x.set(0, 0, 0, 0, 9);
        Expect.same("another value", x.get(0, 0, 0, 0), 9);
        Expect.fails("another candidate", Expect.UNSUPPORTED, () -> x.get(1, 0, 0, 0));
        Expect.fails("the running set", Expect.UNSUPPORTED, () -> x.get(3, 0, 0, 0));
        x.entry(0, 1, 8, true);
        x.entry(0, 1, 9, true);
        x.set(0, 1, 8, 0, -5);
        x.set(0, 1, 8, 2, 100);
        x.set(0, 1, 9, 0, 5);
        Expect.same("the lowest", x.get(0, 1, 8, 0), -5);
        Expect.same("the highest", x.get(0, 1, 9, 0), 5);
        Expect.same("a reference to no entry yet", x.get(0, 1, 8, 2), 100);
        x.set(0, 1, 8, 2, 1);
        Expect.same("another reference", x.get(0, 1, 8, 2), 1);
        Expect.fails("the other entry's", Expect.UNSUPPORTED, () -> x.get(0, 1, 9, 2));
    }

    private static void setWrong() {
        Expect.about("9 set, wrong arguments");
        SettingsDesk x = desk();
        Expect.fails("session 3", Expect.INDEX, () -> x.set(3, 0, 0, 0, 99));
        Expect.fails("session -1", Expect.INDEX, () -> x.set(-1, 0, 0, 0, 99));
        Expect.fails("list 3", Expect.INDEX, () -> x.set(0, 3, 0, 0, 99));
        Expect.fails("list -1", Expect.INDEX, () -> x.set(0, -1, 0, 0, 99));
        Expect.fails("leaf 1", Expect.INDEX, () -> x.set(0, 0, 0, 1, 99));
        Expect.fails("leaf -1", Expect.INDEX, () -> x.set(0, 0, 0, -1, 99));
        Expect.fails("not begun, and a wrong value", Expect.STATE, () -> x.set(0, 0, 0, 0, 99));
        x.begin(0);
        x.entry(0, 1, 8, true);
        x.set(0, 0, 0, 0, 7);
        Expect.fails("no entry, wrong value", Expect.STATE, () -> x.set(0, 1, 7, 0, 99));
        Expect.fails("no such key", Expect.STATE, () -> x.set(0, 1, 101, 0, 0));
        Expect.fails("key -1", Expect.STATE, () -> x.set(0, 1, -1, 0, 0));
        Expect.fails("the root, key 1", Expect.STATE, () -> x.set(0, 0, 1, 0, 0));
        Expect.fails("above the highest", Expect.ARGUMENT, () -> x.set(0, 0, 0, 0, 10));
        Expect.fails("below the lowest", Expect.ARGUMENT, () -> x.set(0, 0, 0, 0, -1));
        Expect.fails("a reference 0", Expect.ARGUMENT, () -> x.set(0, 1, 8, 2, 0));
        Expect.fails("a reference 101", Expect.ARGUMENT, () -> x.set(0, 1, 8, 2, 101));
        Expect.same("nothing changed", x.get(0, 0, 0, 0), 7);
        Expect.fails("nothing set", Expect.UNSUPPORTED, () -> x.get(0, 1, 8, 2));
        x.cut(0);
        Expect.fails("without power", Expect.STATE, () -> x.set(9, 0, 0, 0, 1));
    }

    private static void unset() {
        Expect.about("10 unset");
        SettingsDesk x = desk();
        Expect.fails("session 3", Expect.INDEX, () -> x.unset(3, 0, 0, 0));
        Expect.fails("session -1", Expect.INDEX, () -> x.unset(-1, 0, 0, 0));
        Expect.fails("list 3", Expect.INDEX, () -> x.unset(0, 3, 0, 0));
        Expect.fails("leaf 1", Expect.INDEX, () -> x.unset(0, 0, 0, 1));
        Expect.fails("leaf -1", Expect.INDEX, () -> x.unset(0, 0, 0, -1));
        Expect.fails("not begun", Expect.STATE, () -> x.unset(0, 0, 0, 0));
        x.begin(0);
        Expect.no("it was not set", x.unset(0, 0, 0, 0));
        x.set(0, 0, 0, 0, 0);
        Expect.yes("it was set to 0", x.unset(0, 0, 0, 0));
        Expect.no("not any more", x.unset(0, 0, 0, 0));
        Expect.fails("it is nothing", Expect.UNSUPPORTED, () -> x.get(0, 0, 0, 0));
        x.entry(0, 1, 8, true);
        Expect.no("a standard is no setting", x.unset(0, 1, 8, 1));
        x.set(0, 1, 8, 1, 3);
        x.set(0, 1, 8, 0, 2);
        Expect.yes("set to the standard", x.unset(0, 1, 8, 1));
        Expect.same("another leaf stays", x.get(0, 1, 8, 0), 2);
        Expect.fails("no entry", Expect.STATE, () -> x.unset(0, 1, 7, 0));
        Expect.fails("the root, key 1", Expect.STATE, () -> x.unset(0, 0, 1, 0));
        x.cut(0);
        Expect.fails("without power", Expect.STATE, () -> x.unset(9, 0, 0, 0));
    }

    private static void get() {
        Expect.about("11 get");
        SettingsDesk x = desk();
        x.begin(0);
        x.begin(2);
        x.set(0, 0, 0, 0, 1);
        x.commit(0, 0);
        x.save();
        x.set(0, 0, 0, 0, 2);
        x.commit(0, 0);
        x.set(0, 0, 0, 0, 3);
        x.set(2, 0, 0, 0, 4);
        Expect.same("candidate 0", x.get(0, 0, 0, 0), 3);
        Expect.same("candidate 2", x.get(2, 0, 0, 0), 4);
        Expect.same("running", x.get(3, 0, 0, 0), 2);
        Expect.same("saved", x.get(4, 0, 0, 0), 1);
        x.entry(0, 1, 8, true);
        Expect.same("the standard", x.get(0, 1, 8, 1), 3);
        x.set(0, 1, 8, 1, 0);
        Expect.same("set to 0", x.get(0, 1, 8, 1), 0);
    }

    private static void getWrong() {
        Expect.about("11 get, wrong arguments");
        SettingsDesk x = desk();
        Expect.fails("which 5", Expect.INDEX, () -> x.get(5, 0, 0, 0));
        Expect.fails("which -1", Expect.INDEX, () -> x.get(-1, 0, 0, 0));
        Expect.fails("list 3", Expect.INDEX, () -> x.get(0, 3, 0, 0));
        Expect.fails("list -1", Expect.INDEX, () -> x.get(0, -1, 0, 0));
        Expect.fails("leaf 1", Expect.INDEX, () -> x.get(0, 0, 0, 1));
        Expect.fails("leaf -1", Expect.INDEX, () -> x.get(3, 0, 0, -1));
        Expect.fails("no leaves", Expect.INDEX, () -> x.get(3, 2, 0, 0));
        Expect.fails("not begun", Expect.STATE, () -> x.get(0, 0, 0, 0));
        Expect.fails("not begun, no entry", Expect.STATE, () -> x.get(2, 1, 1, 0));
        Expect.fails("running needs no session", Expect.UNSUPPORTED, () -> x.get(3, 0, 0, 0));
        Expect.fails("saved needs no session", Expect.UNSUPPORTED, () -> x.get(4, 0, 0, 0));
        x.begin(0);
        Expect.fails("no entry", Expect.UNSUPPORTED, () -> x.get(0, 1, 1, 1));
        Expect.fails("no such key", Expect.UNSUPPORTED, () -> x.get(0, 1, 101, 1));
        Expect.fails("the root, key 1", Expect.UNSUPPORTED, () -> x.get(0, 0, 1, 0));
        Expect.fails("nothing", Expect.UNSUPPORTED, () -> x.get(0, 0, 0, 0));
        x.cut(0);
        Expect.fails("without power", Expect.STATE, () -> x.get(9, 0, 0, 0));
    }

    private static void lock() {
        Expect.about("12 lock");
        SettingsDesk x = desk();
        Expect.fails("session 3", Expect.INDEX, () -> x.lock(3, true));
        Expect.fails("session -1", Expect.INDEX, () -> x.lock(-1, false));
        Expect.fails("not begun", Expect.STATE, () -> x.lock(0, true));
        x.begin(0);
        x.begin(1);
        Expect.no("nothing to give back", x.lock(0, false));
        Expect.yes("session 0 takes it", x.lock(0, true));
        Expect.yes("and again", x.lock(0, true));
        Expect.same("it has it", x.figure(3), 0);
        Expect.no("session 1 does not get it", x.lock(1, true));
        Expect.no("nor can it give it back", x.lock(1, false));
        Expect.same("session 0 still has it", x.figure(3), 0);
        x.set(0, 0, 0, 0, 1);
        Expect.same("it may commit", x.commit(0, 5), SettingsDesk.DONE);
        Expect.no("given back while a commit waits", x.lock(0, false));
        Expect.same("nobody has it", x.figure(3), -1);
        Expect.yes("taken while a commit waits", x.lock(1, true));
        Expect.same("session 1 has it", x.figure(3), 1);
        x.cut(0);
        Expect.fails("without power", Expect.STATE, () -> x.lock(9, true));
        x.reboot();
        Expect.same("nobody after the power was off", x.figure(3), -1);
        Expect.fails("not begun any more", Expect.STATE, () -> x.lock(1, false));
        x.begin(0);
        Expect.yes("free again", x.lock(0, true));
    }
}
