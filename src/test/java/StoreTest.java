/** Promises 18 to 21: save, cut, reboot, figure. */
public final class StoreTest {
    private static final int NONE = SettingsDesk.NONE;

    public static void main(String[] args) {
        save();
        saveCut();
        cut();
        cutWrong();
        reboot();
        rebootKeeps();
        figure();
        figureWithoutPower();
        Expect.end();
    }

    /** The root and list 1 have a number 0 .. 9, list 2 none; session 0 has begun. */
    private static SettingsDesk desk() {
        SettingsDesk x = new SettingsDesk();
        x.list();
        x.list();
        x.leaf(0, 0, 0, 9, 0);
        x.leaf(1, 0, 0, 9, 0);
        x.ready();
        x.begin(0);
        return x;
    }

    private static void commitValue(SettingsDesk x, int value) {
        x.begin(0);
        x.set(0, 0, 0, 0, value);
        x.commit(0, 0);
    }

    private static void save() {
        Expect.about("18 save");
        SettingsDesk x = desk();
        Expect.same("the root's page and one more", x.save(), 2);
        x.entry(0, 1, 5, true);
        x.entry(0, 1, 6, true);
        x.entry(0, 2, 5, true);
        x.set(0, 0, 0, 0, 4);
        Expect.same("the candidate does not count", x.save(), 2);
        x.commit(0, 9);
        Expect.fails("not saved yet", Expect.UNSUPPORTED, () -> x.get(4, 0, 0, 0));
        Expect.same("a page for each entry", x.save(), 5);
        Expect.same("saved", x.get(4, 0, 0, 0), 4);
        Expect.same("no change", x.figure(0), 1);
        Expect.same("the commit still waits", x.figure(2), 9);
        x.confirm();
        commitValue(x, 7);
        Expect.same("saved stays", x.get(4, 0, 0, 0), 4);
        Expect.same("the same pages", x.save(), 5);
        Expect.same("saved anew", x.get(4, 0, 0, 0), 7);
        x.cut(0);
        Expect.fails("without power", Expect.STATE, x::save);
    }

    private static void saveCut() {
        Expect.about("18 save, the power fails");
        for (int pages = 1; pages <= 4; pages++) {
            SettingsDesk x = desk();
            commitValue(x, 1);
            x.save();
            x.entry(0, 1, 5, true);
            x.set(0, 0, 0, 0, 2);
            x.commit(0, 0);
            x.cut(pages);
            Expect.same("cut behind page " + pages, x.save(), pages < 3 ? NONE : 3);
            Expect.same("off", x.figure(4), pages <= 3 ? 1 : 0);
            Expect.same("reboot", x.reboot() ? 1 : 0, pages <= 3 ? 1 : 0);
            Expect.same("saved", x.get(4, 0, 0, 0), pages < 3 ? 1 : 2);
            Expect.same("running", x.get(3, 0, 0, 0), pages < 3 ? 1 : 2);
            Expect.same("entries", x.figure(11), pages < 3 ? 0 : 1);
            Expect.same("changes", x.figure(0), pages < 3 ? 3 : 2);
        }
    }

    private static void cut() {
        Expect.about("19 cut");
        SettingsDesk x = desk();
        Expect.no("behind the fifth page", x.cut(5));
        Expect.same("two pages", x.save(), 2);
        Expect.same("four", x.save(), 2);
        Expect.same("on", x.figure(4), 0);
        Expect.same("the fifth", x.save(), NONE);
        Expect.same("off", x.figure(4), 1);
        Expect.yes("it is off", x.cut(NONE));
        Expect.yes("nothing changes", x.cut(1));
        x.reboot();
        Expect.same("nothing was said for now", x.save(), 2);
        Expect.same("on", x.figure(4), 0);
        x.cut(3);
        x.save();
        Expect.no("in place of what was said", x.cut(3));
        Expect.same("two pages", x.save(), 2);
        Expect.no("not going to fail", x.cut(NONE));
        Expect.same("two pages", x.save(), 2);
        x.cut(1);
        Expect.yes("at once", x.cut(0));
        Expect.same("off", x.figure(4), 1);
        x.reboot();
        Expect.same("what was said before is gone", x.save(), 2);
        SettingsDesk early = new SettingsDesk();
        Expect.no("before the schema is ready", early.cut(2));
        early.ready();
        Expect.same("it counts", early.save(), 2);
        Expect.same("off", early.figure(4), 1);
    }

    private static void cutWrong() {
        Expect.about("19 cut, wrong arguments");
        SettingsDesk x = desk();
        Expect.fails("n -2", Expect.ARGUMENT, () -> x.cut(-2));
        Expect.fails("n 1001", Expect.ARGUMENT, () -> x.cut(1001));
        Expect.no("n 1000", x.cut(1000));
        x.cut(1);
        Expect.fails("a wrong one", Expect.ARGUMENT, () -> x.cut(1001));
        Expect.same("changes nothing", x.save(), NONE);
        Expect.fails("n -2 without power", Expect.ARGUMENT, () -> x.cut(-2));
        Expect.fails("n 1001 without power", Expect.ARGUMENT, () -> x.cut(1001));
        Expect.same("still off", x.figure(4), 1);
    }

    private static void reboot() {
        Expect.about("20 reboot");
        SettingsDesk x = desk();
        commitValue(x, 1);
        x.save();
        x.begin(1);
        x.lock(1, true);
        x.cut(1);
        Expect.no("it is on", x.reboot());
        Expect.same("the session goes on", x.get(1, 0, 0, 0), 1);
        Expect.same("so does the lock", x.figure(3), 1);
        Expect.same("and what was said of the power", x.save(), NONE);
        Expect.yes("it was off", x.reboot());
        Expect.no("it is on again", x.reboot());
        Expect.same("running was the saved one", x.figure(0), 1);
        Expect.fails("no session has begun", Expect.STATE, () -> x.get(1, 0, 0, 0));
        Expect.same("nobody has the lock", x.figure(3), NONE);
        x.begin(0);
        x.set(0, 0, 0, 0, 2);
        x.commit(0, 4);
        x.cut(0);
        Expect.yes("it was off", x.reboot());
        Expect.same("running", x.get(3, 0, 0, 0), 1);
        Expect.same("nothing waits", x.figure(2), 0);
        Expect.no("no tick takes anything back", x.tick());
        Expect.same("by a change", x.figure(0), 3);
        x.begin(0);
        Expect.same("older ones stay", x.rollback(0, 1), 3);
        Expect.same("the one that was running", x.get(0, 0, 0, 0), 2);
        rebootToEmpty();
    }

    private static void rebootToEmpty() {
        SettingsDesk x = desk();
        commitValue(x, 6);
        x.cut(0);
        x.reboot();
        Expect.fails("nothing was saved", Expect.UNSUPPORTED, () -> x.get(3, 0, 0, 0));
        Expect.same("the empty set again", x.figure(0), 2);
        SettingsDesk early = new SettingsDesk();
        early.leaf(0, 0, 0, 9, 0);
        early.cut(0);
        early.reboot();
        Expect.same("the schema stays", early.leaf(0, 0, 0, 9, 0), 1);
        Expect.same("no change", early.figure(0), 0);
    }

    private static void rebootKeeps() {
        Expect.about("20 reboot, what stays");
        SettingsDesk x = desk();
        x.begin(1);
        x.set(0, 0, 0, 0, 1);
        x.set(1, 0, 0, 0, 2);
        x.entry(1, 1, 9, true);
        x.commit(0, 0);
        x.commit(1, 0);
        x.rollback(0, 0);
        x.cut(0);
        x.reboot();
        Expect.same("the schema is ready", x.begin(2), 1);
        for (int what = 5; what <= 8; what++) {
            Expect.same("the latest clash, figure(" + what + ")", x.figure(what), 0);
        }
        x.entry(2, 1, 9, true);
        x.set(2, 1, 9, 0, 3);
        x.begin(0);
        x.entry(0, 1, 9, true);
        x.set(0, 1, 9, 0, 4);
        x.commit(2, 0);
        x.commit(0, 0);
        x.cut(0);
        x.reboot();
        Expect.same("the latest clash's list", x.figure(6), 1);
        Expect.same("the latest clash's key", x.figure(7), 9);
    }

    private static void figure() {
        Expect.about("21 figure");
        SettingsDesk x = desk();
        for (int what : new int[] {-1, 9, 13, 14, 15, Integer.MIN_VALUE, Integer.MAX_VALUE}) {
            Expect.same("figure(" + what + ")", x.figure(what), NONE);
        }
        Expect.same("the root's entries", x.figure(10), 1);
        Expect.same("list 1", x.figure(11), 0);
        x.entry(0, 1, 3, true);
        x.entry(0, 2, 3, true);
        x.entry(0, 2, 4, true);
        Expect.same("candidates do not count", x.figure(12), 0);
        x.lock(0, true);
        x.commit(0, 7);
        Expect.same("changes", x.figure(0), 1);
        Expect.same("older sets", x.figure(1), 1);
        Expect.same("ticks", x.figure(2), 7);
        Expect.same("the lock", x.figure(3), 0);
        Expect.same("the power", x.figure(4), 0);
        Expect.same("list 1", x.figure(11), 1);
        Expect.same("list 2", x.figure(12), 2);
        Expect.same("no list 3", x.figure(13), NONE);
        x.tick();
        Expect.same("ticks", x.figure(2), 6);
    }

    private static void figureWithoutPower() {
        Expect.about("21 figure, without power");
        SettingsDesk x = desk();
        x.lock(0, true);
        x.set(0, 0, 0, 0, 3);
        x.commit(0, 7);
        x.cut(0);
        Expect.same("changes", x.figure(0), 1);
        Expect.same("off", x.figure(4), 1);
        Expect.same("it waits until the power is back", x.figure(2), 7);
        Expect.same("so does the lock", x.figure(3), 0);
        x.reboot();
        Expect.same("on", x.figure(4), 0);
        Expect.same("nothing waits", x.figure(2), 0);
        Expect.same("no lock", x.figure(3), NONE);
    }
}
