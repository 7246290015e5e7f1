/** Desks that have come some way, each by a few calls on a new one. */
final class Desks {
    private Desks() {
    }

    /** A schema with room left: list 1 has two numbers and a reference, list 2 no leaf. */
    static void open(SettingsDesk x) {
        x.list();
        x.list();
        x.leaf(0, 0, 0, 9, 0);
        x.leaf(1, 0, -5, 5, 0);
        x.leaf(1, 0, 0, 9, 0);
        x.leaf(1, 1, 2, 0, 0);
        x.standard(1, 1, 3);
        x.rule(1, 0, 4, 2, true);
    }

    static void openToFail(SettingsDesk x) {
        open(x);
        x.cut(5);
    }

    static void openWithoutPower(SettingsDesk x) {
        open(x);
        x.cut(0);
    }

    /** As many lists and rules as there may be, and as many leaves in list 1. */
    static void full(SettingsDesk x) {
        open(x);
        x.list();
        x.leaf(1, 0, 0, 9, 0);
        for (int i = 1; i < 4; i++) {
            x.rule(0, 0, i, 0, true);
        }
    }

    static void readyAlone(SettingsDesk x) {
        open(x);
        x.ready();
    }

    /**
     * Sessions 0 and 1 have begun, 2 has not; the running set, the saved one and the candidates
     * differ; there are 3 older sets; a commit was CLASH, another waits for 5 ticks; session 1 has
     * the lock; the power is going to fail behind the 40th page.
     */
    static void busy(SettingsDesk x) {
        readyAlone(x);
        x.begin(0);
        x.entry(0, 1, 1, true);
        x.set(0, 1, 1, 0, 2);
        x.commit(0, 0);
        x.save();
        x.begin(1);
        x.set(0, 1, 1, 0, 3);
        x.set(1, 1, 1, 0, 1);
        x.commit(0, 0);
        x.commit(1, 0);
        x.set(0, 0, 0, 0, 6);
        x.commit(0, 5);
        x.lock(1, true);
        x.unset(0, 0, 0, 0);
        x.entry(0, 2, 50, true);
        x.entry(0, 1, 3, true);
        x.set(0, 1, 3, 2, 50);
        x.entry(1, 2, 2, true);
        x.cut(40);
    }

    static void withoutPower(SettingsDesk x) {
        busy(x);
        x.cut(0);
    }

    /** List 1 has 6 entries in candidate 0, with the keys 1 and 3 to 7. */
    static void crowded(SettingsDesk x) {
        busy(x);
        for (int key = 4; key <= 7; key++) {
            x.entry(0, 1, key, true);
        }
    }

    static void readyAndNotGood(SettingsDesk x) {
        open(x);
        x.leaf(0, 0, 0, 9, 1);
        x.ready();
    }

    /** As busy(), but nothing waits, and session 1 could commit. */
    static void confirmed(SettingsDesk x) {
        busy(x);
        x.confirm();
        x.set(1, 1, 1, 0, 2);
    }

    static void noneOlder(SettingsDesk x) {
        readyAlone(x);
        x.begin(0);
        x.set(0, 0, 0, 0, 5);
    }

    static void manyOlder(SettingsDesk x) {
        busy(x);
        x.confirm();
        x.lock(1, false);
        x.begin(0);
        for (int value = 0; value < 8; value++) {
            x.set(0, 0, 0, 0, value);
            x.commit(0, 0);
        }
        x.set(0, 0, 0, 0, 9);
    }
}
