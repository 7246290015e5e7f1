/** Terms: which fault a set has, the first one in the order of paths, with all its boundaries. */
public final class FaultTest {
    private static final int DONE = SettingsDesk.DONE;
    private static final int INVALID = SettingsDesk.INVALID;
    private static final int NONE = SettingsDesk.NONE;

    public static void main(String[] args) {
        faultsOfAnEntry();
        faultsOfTwoEntries();
        faultsOfTwoLists();
        firstLeafThatLacks();
        firstReference();
        firstUnique();
        firstRule();
        rulesOfOtherLists();
        uniqueLooksBefore();
        nothingIsNotZero();
        referencesLookAnywhere();
        standardsCount();
        sevenEntries();
        firstCrowdedList();
        crowdComesFirst();
        emptySetNotGood();
        Expect.end();
    }

    private static void trouble(SettingsDesk x, int fault, int list, int key, int part) {
        Expect.same("the fault", x.figure(5), fault);
        Expect.same("its list", x.figure(6), list);
        Expect.same("its key", x.figure(7), key);
        Expect.same("its leaf or rule", x.figure(8), part);
    }

    /**
     * Lists 1 and 3 have leaves alike: 0 is required, 1 a reference to list 2, 2 is unique, 3 must
     * not be 5 by a rule, 0 of list 3 and 1 of list 1. Their entries with the key 1 are good and
     * have 7 at the unique leaf.
     */
    private static SettingsDesk strict() {
        SettingsDesk x = new SettingsDesk();
        x.list();
        x.list();
        x.list();
        for (int list = 1; list <= 3; list += 2) {
            x.leaf(list, 0, 0, 9, 1);
            x.leaf(list, 1, 2, 0, 0);
            x.leaf(list, 0, 0, 9, 2);
            x.leaf(list, 0, 0, 9, 0);
        }
        x.rule(3, 3, 5, 3, false);
        x.rule(1, 3, 5, 3, false);
        x.ready();
        x.begin(0);
        for (int list = 1; list <= 3; list += 2) {
            x.entry(0, list, 1, true);
            x.set(0, list, 1, 0, 0);
            x.set(0, list, 1, 2, 7);
        }
        return x;
    }

    /** An entry with just these faults of 1 to 4, a bit for each. */
    private static void faulty(SettingsDesk x, int list, int key, int faults) {
        x.entry(0, list, key, true);
        if ((faults & 1) == 0) {
            x.set(0, list, key, 0, 0);
        }
        if ((faults & 2) != 0) {
            x.set(0, list, key, 1, 99);
        }
        if ((faults & 4) != 0) {
            x.set(0, list, key, 2, 7);
        }
        if ((faults & 8) != 0) {
            x.set(0, list, key, 3, 5);
        }
    }

    /** The first of these faults is told, with its leaf, or the rule of the list. */
    private static void firstOf(SettingsDesk x, int faults, int list, int key) {
        int first = Integer.numberOfTrailingZeros(faults);
        Expect.same("refused", x.commit(0, 0), INVALID);
        trouble(x, first + 1, list, key, first < 3 ? first : list == 1 ? 1 : 0);
    }

    private static void faultsOfAnEntry() {
        Expect.about("Terms: 1 to 4, the first of an entry");
        for (int faults = 0; faults < 16; faults++) {
            SettingsDesk x = strict();
            faulty(x, 1, 100, faults);
            if (faults == 0) {
                Expect.same("none", x.commit(0, 0), DONE);
            } else {
                firstOf(x, faults, 1, 100);
            }
        }
    }

    private static void faultsOfTwoEntries() {
        Expect.about("Terms: entries of a list by keys");
        for (int faults = 0; faults < 16; faults++) {
            for (int others = 1; others < 16; others++) {
                SettingsDesk x = strict();
                faulty(x, 1, 10, others);
                faulty(x, 1, 9, faults);
                // Entry 1 has the value that both would have twice.
                firstOf(x, faults == 0 ? others : faults, 1, faults == 0 ? 10 : 9);
            }
        }
    }

    private static void faultsOfTwoLists() {
        Expect.about("Terms: lists by numbers");
        for (int faults = 0; faults < 16; faults++) {
            for (int others = 1; others < 16; others++) {
                SettingsDesk x = strict();
                faulty(x, 3, 2, others);
                faulty(x, 1, 100, faults);
                firstOf(x, faults == 0 ? others : faults, faults == 0 ? 3 : 1,
                        faults == 0 ? 2 : 100);
            }
        }
    }

    /** List 1 with four leaves alike, list 2 without any; session 0 has begun. */
    private static SettingsDesk alike(int kind, int low, int flags) {
        SettingsDesk x = new SettingsDesk();
        x.list();
        x.list();
        for (int leaf = 0; leaf < 4; leaf++) {
            x.leaf(1, kind, low, 9, flags);
        }
        x.ready();
        x.begin(0);
        return x;
    }

    private static void firstLeafThatLacks() {
        Expect.about("Terms: 1 for the first leaf that is required and is nothing");
        for (int given = 0; given < 16; given++) {
            SettingsDesk x = alike(0, 0, 1);
            x.entry(0, 1, 1, true);
            for (int leaf = 0; leaf < 4; leaf++) {
                if ((given & 1 << leaf) != 0) {
                    x.set(0, 1, 1, leaf, 0);
                }
            }
            Expect.same("committed", x.commit(0, 0), given == 15 ? DONE : INVALID);
            if (given < 15) {
                trouble(x, 1, 1, 1, Integer.numberOfTrailingZeros(~given));
            }
        }
    }

    private static void firstReference() {
        Expect.about("Terms: 2 for the first reference that is not the key of an entry");
        for (int wrong = 0; wrong < 16; wrong++) {
            SettingsDesk x = alike(1, 2, 0);
            x.entry(0, 1, 1, true);
            x.entry(0, 2, 100, true);
            for (int leaf = 0; leaf < 4; leaf++) {
                x.set(0, 1, 1, leaf, (wrong & 1 << leaf) != 0 ? 1 : 100);
            }
            Expect.same("committed", x.commit(0, 0), wrong == 0 ? DONE : INVALID);
            if (wrong != 0) {
                trouble(x, 2, 1, 1, Integer.numberOfTrailingZeros(wrong));
            }
        }
    }

    private static void firstUnique() {
        Expect.about("Terms: 3 for the first unique leaf that is the same before it");
        for (int same = 0; same < 16; same++) {
            SettingsDesk x = alike(0, 0, 2);
            for (int key = 1; key <= 2; key++) {
                x.entry(0, 1, key, true);
                for (int leaf = 0; leaf < 4; leaf++) {
                    x.set(0, 1, key, leaf, (same & 1 << leaf) != 0 ? 0 : key);
                }
            }
            Expect.same("committed", x.commit(0, 0), same == 0 ? DONE : INVALID);
            if (same != 0) {
                trouble(x, 3, 1, 2, Integer.numberOfTrailingZeros(same));
            }
        }
    }

    private static void firstRule() {
        Expect.about("Terms: 4 for the first rule of the list that is broken");
        for (int broken = 0; broken < 16; broken++) {
            SettingsDesk x = new SettingsDesk();
            x.list();
            for (int leaf = 0; leaf < 4; leaf++) {
                x.leaf(1, 0, 0, 9, 0);
            }
            for (int leaf = 3; leaf >= 0; leaf--) {
                x.rule(1, leaf, 0, leaf, false);
            }
            x.ready();
            x.begin(0);
            x.entry(0, 1, 8, true);
            for (int rule = 0; rule < 4; rule++) {
                x.set(0, 1, 8, 3 - rule, (broken & 1 << rule) != 0 ? 0 : 1);
            }
            Expect.same("committed", x.commit(0, 0), broken == 0 ? DONE : INVALID);
            if (broken != 0) {
                trouble(x, 4, 1, 8, Integer.numberOfTrailingZeros(broken));
            }
        }
    }

    private static void rulesOfOtherLists() {
        Expect.about("Terms: a rule is of a list");
        SettingsDesk x = new SettingsDesk();
        x.list();
        x.list();
        for (int list = 0; list <= 2; list++) {
            x.leaf(list, 0, 0, 9, 0);
            x.leaf(list, 0, 0, 9, 0);
        }
        x.rule(1, 0, 3, 1, true);
        x.ready();
        x.begin(0);
        x.entry(0, 2, 1, true);
        x.set(0, 0, 0, 0, 3);
        x.set(0, 2, 1, 0, 3);
        Expect.same("of no list but its own", x.commit(0, 0), DONE);
        x.entry(0, 1, 1, true);
        x.set(0, 1, 1, 0, 3);
        Expect.same("of its own", x.commit(0, 0), INVALID);
        trouble(x, 4, 1, 1, 0);
        x.set(0, 1, 1, 1, 0);
        Expect.same("b is there, and is 0", x.commit(0, 0), DONE);
    }

    private static void uniqueLooksBefore() {
        Expect.about("Terms: the same in an entry of this list before it");
        SettingsDesk x = new SettingsDesk();
        x.list();
        x.list();
        for (int list = 1; list <= 2; list++) {
            x.leaf(list, 0, 0, 9, 2);
            x.leaf(list, 0, 0, 9, 2);
        }
        x.ready();
        x.begin(0);
        x.entry(0, 1, 1, true);
        x.entry(0, 1, 2, true);
        x.entry(0, 2, 1, true);
        x.set(0, 1, 1, 0, 4);
        x.set(0, 2, 1, 0, 4);
        Expect.same("in another list", x.commit(0, 0), DONE);
        x.set(0, 1, 2, 1, 4);
        Expect.same("another leaf", x.commit(0, 0), DONE);
        for (int key = 3; key <= 6; key++) {
            x.entry(0, 1, key, true);
        }
        Expect.same("nothing in many", x.commit(0, 0), DONE);
        x.set(0, 1, 6, 0, 4);
        Expect.same("the first and the last", x.commit(0, 0), INVALID);
        trouble(x, 3, 1, 6, 0);
        x.set(0, 1, 3, 0, 4);
        Expect.same("three of them", x.commit(0, 0), INVALID);
        trouble(x, 3, 1, 3, 0);
        x.unset(0, 1, 1, 0);
        Expect.same("the two behind", x.commit(0, 0), INVALID);
        trouble(x, 3, 1, 6, 0);
        x.unset(0, 1, 3, 0);
        Expect.same("one alone", x.commit(0, 0), DONE);
    }

    private static void nothingIsNotZero() {
        Expect.about("Terms: a leaf that is nothing is not 0");
        SettingsDesk x = new SettingsDesk();
        x.list();
        x.leaf(1, 0, 0, 9, 2);
        x.leaf(1, 0, 0, 9, 0);
        x.rule(1, 0, 0, 1, true);
        x.ready();
        x.begin(0);
        for (int key = 1; key <= 3; key++) {
            x.entry(0, 1, key, true);
        }
        Expect.same("no rule is broken by nothing", x.commit(0, 0), DONE);
        x.set(0, 1, 2, 0, 0);
        x.set(0, 1, 2, 1, 0);
        Expect.same("unique, nothing before it and behind it", x.commit(0, 0), DONE);
        x.set(0, 1, 1, 0, 5);
        x.unset(0, 1, 1, 0);
        x.set(0, 1, 3, 0, 0);
        x.unset(0, 1, 3, 0);
        Expect.same("not set any more", x.commit(0, 0), DONE);
        x.set(0, 1, 3, 0, 0);
        x.set(0, 1, 3, 1, 1);
        Expect.same("0 in both", x.commit(0, 0), INVALID);
        trouble(x, 3, 1, 3, 0);
        x.unset(0, 1, 2, 0);
        x.unset(0, 1, 3, 1);
        Expect.same("a is 0, and b is nothing", x.commit(0, 0), INVALID);
        trouble(x, 4, 1, 3, 0);
    }

    private static void referencesLookAnywhere() {
        Expect.about("Terms: the key of an entry of its list");
        SettingsDesk x = new SettingsDesk();
        x.list();
        x.list();
        x.leaf(1, 1, 2, 0, 0);
        x.leaf(1, 1, 1, 0, 0);
        x.leaf(2, 1, 1, 0, 0);
        x.ready();
        x.begin(0);
        x.entry(0, 1, 50, true);
        x.entry(0, 2, 60, true);
        x.set(0, 1, 50, 0, 60);
        Expect.same("of a list behind it", x.commit(0, 0), DONE);
        x.set(0, 2, 60, 0, 50);
        Expect.same("of a list before it", x.commit(0, 0), DONE);
        x.entry(0, 1, 70, true);
        x.set(0, 1, 50, 1, 70);
        Expect.same("of an entry behind it", x.commit(0, 0), DONE);
        x.set(0, 1, 50, 1, 60);
        Expect.same("of another list", x.commit(0, 0), INVALID);
        trouble(x, 2, 1, 50, 1);
        x.set(0, 1, 50, 1, 70);
        x.entry(0, 1, 70, false);
        Expect.same("taken away", x.commit(0, 0), INVALID);
        trouble(x, 2, 1, 50, 1);
        x.entry(0, 1, 70, true);
        x.entry(0, 2, 60, false);
        Expect.same("a whole list away", x.commit(0, 0), INVALID);
        trouble(x, 2, 1, 50, 0);
    }

    private static void standardsCount() {
        Expect.about("Terms: what a leaf is counts, not to what it is set");
        SettingsDesk x = new SettingsDesk();
        x.list();
        x.leaf(1, 0, 0, 9, 3);
        x.leaf(1, 0, 0, 9, 0);
        x.leaf(1, 0, 0, 9, 0);
        x.standard(1, 0, 4);
        x.standard(1, 1, 0);
        x.rule(1, 2, 1, 1, false);
        x.rule(1, 1, 0, 2, true);
        x.ready();
        x.begin(0);
        x.entry(0, 1, 1, true);
        Expect.same("a is a standard, b is nothing", x.commit(0, 0), INVALID);
        trouble(x, 4, 1, 1, 1);
        x.set(0, 1, 1, 2, 1);
        Expect.same("b is a standard, and must not be there", x.commit(0, 0), INVALID);
        trouble(x, 4, 1, 1, 0);
        x.set(0, 1, 1, 2, 0);
        Expect.same("required, and a standard", x.commit(0, 0), DONE);
        x.entry(0, 1, 2, true);
        x.set(0, 1, 2, 2, 0);
        Expect.same("unique, and a standard in both", x.commit(0, 0), INVALID);
        trouble(x, 3, 1, 2, 0);
        x.set(0, 1, 1, 0, 4);
        Expect.same("unique, set before, a standard behind", x.commit(0, 0), INVALID);
        trouble(x, 3, 1, 2, 0);
        x.unset(0, 1, 1, 0);
        x.set(0, 1, 2, 0, 4);
        Expect.same("unique, a standard before, set behind", x.commit(0, 0), INVALID);
        trouble(x, 3, 1, 2, 0);
        x.set(0, 1, 2, 0, 5);
        Expect.same("another value", x.commit(0, 0), DONE);
    }

    /** Lists 1 to 3, and a leaf of the root that is required; two sessions have begun. */
    private static SettingsDesk roomy() {
        SettingsDesk x = new SettingsDesk();
        x.list();
        x.list();
        x.list();
        x.leaf(0, 0, 0, 9, 1);
        x.leaf(1, 0, 0, 9, 1);
        x.ready();
        x.begin(0);
        x.set(0, 0, 0, 0, 1);
        x.commit(0, 0);
        x.begin(1);
        return x;
    }

    private static void add(SettingsDesk x, int s, int list, int from, int count) {
        for (int key = from; key < from + count; key++) {
            x.entry(s, list, key, true);
        }
    }

    private static void sevenEntries() {
        Expect.about("Terms: 5 for a list that would have more than 6 entries");
        for (int mine = 0; mine <= 6; mine++) {
            for (int theirs = 0; theirs <= 6; theirs++) {
                SettingsDesk x = roomy();
                add(x, 0, 3, 1, theirs);
                add(x, 1, 3, 90, mine);
                x.commit(0, 0);
                int due = mine + theirs <= 6 ? DONE : INVALID;
                Expect.same(mine + " and " + theirs, x.commit(1, 0), due);
                Expect.same("running", x.figure(13), due == DONE ? mine + theirs : theirs);
                trouble(x, due == DONE ? 0 : 5, due == DONE ? 0 : 3, due == DONE ? 0 : NONE,
                        due == DONE ? 0 : NONE);
            }
        }
    }

    private static void firstCrowdedList() {
        Expect.about("Terms: the first list of these");
        for (int lists = 1; lists < 8; lists++) {
            SettingsDesk x = roomy();
            for (int list = 1; list <= 3; list++) {
                int count = (lists & 1 << list - 1) != 0 ? 4 : 3;
                add(x, 0, list, 1, 3);
                add(x, 1, list, 51, count);
            }
            for (int key = 1; key <= 3; key++) {
                x.set(0, 1, key, 0, 0);
                x.set(1, 1, key + 50, 0, 0);
            }
            if ((lists & 1) != 0) {
                x.set(1, 1, 54, 0, 0);
            }
            x.commit(0, 0);
            Expect.same("7 entries", x.commit(1, 0), INVALID);
            trouble(x, 5, Integer.numberOfTrailingZeros(lists) + 1, NONE, NONE);
        }
    }

    private static void crowdComesFirst() {
        Expect.about("Terms: before all these");
        SettingsDesk x = roomy();
        add(x, 0, 3, 1, 6);
        x.commit(0, 0);
        x.unset(1, 0, 0, 0);
        x.entry(1, 1, 1, true);
        x.entry(1, 3, 100, true);
        Expect.same("the last list, and the root's leaf", x.commit(1, 0), INVALID);
        trouble(x, 5, 3, NONE, NONE);
        x.entry(1, 3, 100, false);
        Expect.same("the root's leaf", x.commit(1, 0), INVALID);
        trouble(x, 1, 0, 0, 0);
        x.set(1, 0, 0, 0, 2);
        Expect.same("the leaf of list 1", x.commit(1, 0), INVALID);
        trouble(x, 1, 1, 1, 0);
        x.set(1, 1, 1, 0, 2);
        Expect.same("good", x.commit(1, 0), DONE);
    }

    private static void emptySetNotGood() {
        Expect.about("Terms: a set is good when it has none");
        SettingsDesk x = new SettingsDesk();
        x.leaf(0, 0, 0, 9, 0);
        x.leaf(0, 0, 0, 9, 1);
        Expect.no("the empty set is not", x.ready());
        x.begin(0);
        x.begin(1);
        Expect.same("nothing edited", x.commit(0, 0), INVALID);
        trouble(x, 1, 0, 0, 1);
        x.set(0, 0, 0, 1, 3);
        Expect.same("good by a setting", x.commit(0, 0), DONE);
        Expect.same("nothing edited since", x.commit(1, 0), DONE);
        x.rollback(1, 1);
        Expect.same("the empty set again", x.commit(1, 0), INVALID);
        x.cut(0);
        x.reboot();
        Expect.same("it may run all the same", x.figure(0), 2);
        Expect.fails("as it was saved", Expect.UNSUPPORTED, () -> x.get(3, 0, 0, 1));
    }
}
