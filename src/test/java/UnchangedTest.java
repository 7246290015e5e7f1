/** Calls that answer without a throw, of which the document says that nothing changes by them. */
public final class UnchangedTest {
    private static final int CLASH = SettingsDesk.CLASH;
    private static final int INVALID = SettingsDesk.INVALID;
    private static final int LOCKED = SettingsDesk.LOCKED;

    public static void main(String[] args) {
        entry();
        setAndUnset();
        questions();
        lock();
        lockedCommit();
        clash();
        invalid();
        commitOfNothing();
        confirmAndTick();
        rollbackToRunning();
        cutWithoutPower();
        cutForNothing();
        rebootWithPower();
        Expect.end();
    }

    private static void answers(String what, Twins.Calls before, int due, Asked asked) {
        SettingsDesk x = new SettingsDesk();
        before.on(x);
        Expect.same(what, asked.of(x), due);
    }

    private interface Asked {
        int of(SettingsDesk x);
    }

    private static int bit(boolean value) {
        return value ? 1 : 0;
    }

    private static void idle(String what, Twins.Calls before, int due, Asked asked) {
        answers(what, before, due, asked);
        Twins.idle(what, before, asked::of);
    }

    private static void entry() {
        Expect.about("8 entry, it was not otherwise");
        idle("there already", Desks::busy, 0, x -> bit(x.entry(0, 1, 3, true)));
        idle("there already, with settings", Desks::busy, 0, x -> bit(x.entry(0, 1, 1, true)));
        idle("not there", Desks::busy, 0, x -> bit(x.entry(0, 1, 2, false)));
        idle("not there, in an empty list", Desks::busy, 0, x -> bit(x.entry(0, 2, 2, false)));
        idle("there already, in a full list", Desks::crowded, 0,
                x -> bit(x.entry(0, 1, 7, true)));
        idle("not there, in a full list", Desks::crowded, 0, x -> bit(x.entry(0, 1, 2, false)));
    }

    private static void setAndUnset() {
        Expect.about("9 set, 10 unset, as it was");
        Twins.idle("set to what it is set to", Desks::busy, x -> x.set(0, 1, 3, 2, 50));
        idle("unset, and was not set", Desks::busy, 0, x -> bit(x.unset(0, 1, 3, 0)));
        idle("unset, and has a standard", Desks::busy, 0, x -> bit(x.unset(0, 1, 3, 1)));
    }

    private static void questions() {
        Expect.about("11 get, 17 diff, 21 figure ask alone");
        idle("get of a candidate", Desks::busy, 50, x -> x.get(0, 1, 3, 2));
        idle("get of a standard", Desks::busy, 3, x -> x.get(3, 1, 1, 1));
        idle("get of the saved set", Desks::busy, 2, x -> x.get(4, 1, 1, 0));
        for (int what = 0; what <= 3; what++) {
            int asked = what;
            Twins.idle("diff", Desks::busy, x -> x.diff(0, 1, asked));
        }
        for (int what = -1; what <= 14; what++) {
            int asked = what;
            Twins.idle("figure", Desks::busy, x -> x.figure(asked));
            Twins.idle("figure without power", Desks::withoutPower, x -> x.figure(asked));
            Twins.idle("figure, not ready", Desks::open, x -> x.figure(asked));
        }
    }

    private static void lock() {
        Expect.about("12 lock, as it was");
        idle("it has it", Desks::busy, 1, x -> bit(x.lock(1, true)));
        idle("another has it", Desks::busy, 0, x -> bit(x.lock(0, true)));
        idle("another has it, given back", Desks::busy, 0, x -> bit(x.lock(0, false)));
        idle("nobody has it, given back", Desks::noneOlder, 0, x -> bit(x.lock(0, false)));
    }

    private static void lockedCommit() {
        Expect.about("13 commit, LOCKED");
        for (int ticks : new int[] {0, 1, 9, 1000}) {
            idle("a commit waits", Desks::busy, LOCKED, x -> x.commit(0, ticks));
            idle("a commit waits, with the lock", Desks::busy, LOCKED, x -> x.commit(1, ticks));
            idle("another has the lock", Desks::confirmed, LOCKED, x -> x.commit(0, ticks));
        }
    }

    /** As confirmed(), but what session 1 has set clashes. */
    private static void clashing(SettingsDesk x) {
        Desks.confirmed(x);
        x.set(1, 1, 1, 0, 5);
    }

    private static void clash() {
        Expect.about("13 commit, CLASH");
        for (int ticks : new int[] {0, 7}) {
            answers("it clashes", UnchangedTest::clashing, CLASH, x -> x.commit(1, ticks));
            Twins.idleButTrouble("it clashes", UnchangedTest::clashing, x -> x.commit(1, ticks));
        }
    }

    /** As confirmed(), but an entry of session 1 refers to none. */
    private static void faulty(SettingsDesk x) {
        Desks.confirmed(x);
        x.entry(1, 1, 4, true);
        x.set(1, 1, 4, 2, 3);
    }

    private static void invalid() {
        Expect.about("13 commit, INVALID");
        for (int ticks : new int[] {0, 7}) {
            answers("a fault", UnchangedTest::faulty, INVALID, x -> x.commit(1, ticks));
            Twins.idleButTrouble("a fault", UnchangedTest::faulty, x -> x.commit(1, ticks));
        }
    }

    private static void fresh(SettingsDesk x) {
        Desks.confirmed(x);
        x.begin(1);
    }

    private static void commitOfNothing() {
        Expect.about("13 commit, the outcome is running");
        idle("nothing edited", UnchangedTest::fresh, 0, x -> x.commit(1, 0));
        idle("nothing edited, for some ticks", UnchangedTest::fresh, 0, x -> x.commit(1, 9));
    }

    private static void confirmAndTick() {
        Expect.about("14 confirm, 15 tick, nothing waits");
        idle("confirm", Desks::confirmed, 0, x -> bit(x.confirm()));
        idle("tick", Desks::confirmed, 0, x -> bit(x.tick()));
        idle("confirm, none begun", Desks::readyAlone, 0, x -> bit(x.confirm()));
        idle("tick, none begun", Desks::readyAlone, 0, x -> bit(x.tick()));
    }

    private static void rollbackToRunning() {
        Expect.about("16 rollback, to the running set");
        idle("nothing edited", UnchangedTest::fresh, 3, x -> x.rollback(1, 0));
    }

    private static void cutWithoutPower() {
        Expect.about("19 cut, when it is off");
        for (int n : new int[] {-1, 0, 1, 1000}) {
            idle("n " + n, Desks::withoutPower, 1, x -> bit(x.cut(n)));
            idle("n " + n + ", not ready", Desks::openWithoutPower, 1, x -> bit(x.cut(n)));
        }
    }

    private static void cutForNothing() {
        Expect.about("19 cut, as it was said");
        idle("behind the 40th page", Desks::busy, 0, x -> bit(x.cut(40)));
        idle("not going to fail", Desks::noneOlder, 0, x -> bit(x.cut(-1)));
    }

    private static void rebootWithPower() {
        Expect.about("20 reboot, it is on");
        idle("new", x -> { }, 0, x -> bit(x.reboot()));
        idle("not ready", Desks::open, 0, x -> bit(x.reboot()));
        idle("ready", Desks::readyAlone, 0, x -> bit(x.reboot()));
        idle("busy", Desks::busy, 0, x -> bit(x.reboot()));
        idle("on again", UnchangedTest::backAgain, 0, x -> bit(x.reboot()));
    }

    private static void backAgain(SettingsDesk x) {
        Desks.withoutPower(x);
        x.reboot();
        x.begin(0);
        x.begin(1);
        x.lock(1, true);
        x.set(1, 0, 0, 0, 2);
        x.commit(1, 3);
    }
}
