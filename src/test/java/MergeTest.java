/** Terms: to merge a session's candidate, case by case, and which clash counts. */
public final class MergeTest {
    private static final int DONE = SettingsDesk.DONE;
    private static final int CLASH = SettingsDesk.CLASH;
    private static final int NONE = SettingsDesk.NONE;

    /** No entry, an entry without the setting, and with it set to 1 or 2. */
    private static final String STATES = "-.12";

    /**
     * By what is in the base: a row for what is in the candidate, a column for what is in the
     * running set. E is a clash of the entry, L of the leaf.
     */
    private static final String[][] OUTCOMES = {
        {"-.12", "..12", "111L", "22L2"},
        {"--EE", "-.12", "E11L", "E2L2"},
        {"-E-E", "E..L", "-.12", "EL22"},
        {"-EE-", "E.L.", "EL11", "-.12"},
    };

    public static void main(String[] args) {
        oneEntry();
        theRoot();
        amongOthers();
        twoLeaves();
        runningIsTheBase();
        awayAndThereAgain();
        firstClash();
        entryBeforeLeaves();
        twoKeysAlike();
        mergedBesideAClash();
        manyKeys();
        clashLeavesTheBase();
        Expect.end();
    }

    /** The root and lists 1 to 3 have four numbers each; the sessions have begun. */
    private static SettingsDesk desk() {
        SettingsDesk x = new SettingsDesk();
        for (int list = 0; list <= 3; list++) {
            if (list > 0) {
                x.list();
            }
            for (int leaf = 0; leaf < 4; leaf++) {
                x.leaf(list, 0, 0, 9, 0);
            }
        }
        x.ready();
        for (int s = 0; s <= 2; s++) {
            x.begin(s);
        }
        return x;
    }

    private static void make(SettingsDesk x, int s, int list, int key, int leaf, char state) {
        if (list > 0) {
            x.entry(s, list, key, state != '-');
        }
        if (state == '.') {
            x.unset(s, list, key, leaf);
        } else if (state != '-') {
            x.set(s, list, key, leaf, state - '0');
        }
    }

    private static char seen(SettingsDesk x, int which, int list, int key, int leaf) {
        try {
            return (char) ('0' + x.get(which, list, key, leaf));
        } catch (UnsupportedOperationException e) {
            return '.';
        }
    }

    private static void trouble(SettingsDesk x, int list, int key, int leaf) {
        Expect.same("no fault", x.figure(5), 0);
        Expect.same("its list", x.figure(6), list);
        Expect.same("its key", x.figure(7), key);
        Expect.same("its leaf", x.figure(8), leaf);
    }

    /** Session 1 comes to have this base and this candidate, and the running set to be this. */
    private static SettingsDesk prepared(int list, int key, int leaf, String states) {
        SettingsDesk x = desk();
        make(x, 0, list, key, leaf, states.charAt(0));
        x.commit(0, 0);
        x.begin(1);
        make(x, 0, list, key, leaf, states.charAt(2));
        x.commit(0, 0);
        make(x, 1, list, key, leaf, states.charAt(1));
        return x;
    }

    private static void oneEntry() {
        for (int leaf = 0; leaf < 4; leaf++) {
            allCases(2, 100, leaf, 0);
        }
    }

    private static void theRoot() {
        for (int leaf = 0; leaf < 4; leaf++) {
            allCases(0, 0, leaf, 1);
        }
    }

    /**
     * The entry is not the same one of its list, counted from the first, in the base, the candidate
     * and the running set, as each has others before it that the two others have not.
     */
    private static void amongOthers() {
        for (int others = 0; others < 27; others++) {
            for (int b = 0; b < 4; b++) {
                for (int c = 0; c < 4; c++) {
                    for (int r = 0; r < 4; r++) {
                        amongOthers("" + STATES.charAt(b) + STATES.charAt(c) + STATES.charAt(r),
                                others % 3, others / 3 % 3, others / 9, OUTCOMES[b][c].charAt(r));
                    }
                }
            }
        }
    }

    private static void amongOthers(String states, int inBase, int inCandidate, int inRunning,
            char due) {
        Expect.about("Terms, merge of " + states + " behind " + inBase + ", " + inCandidate
                + " and " + inRunning + " others");
        SettingsDesk x = desk();
        make(x, 0, 2, 70, 1, states.charAt(0));
        others(x, 0, 10, inBase, true);
        x.commit(0, 0);
        x.begin(1);
        make(x, 0, 2, 70, 1, states.charAt(2));
        others(x, 0, 10, inBase, false);
        others(x, 0, 30, inRunning, true);
        x.commit(0, 0);
        make(x, 1, 2, 70, 1, states.charAt(1));
        others(x, 1, 10, inBase, false);
        others(x, 1, 20, inCandidate, true);
        if (due == 'E' || due == 'L') {
            Expect.same("commit", x.commit(1, 0), CLASH);
            trouble(x, 2, 70, due == 'E' ? NONE : 1);
            return;
        }
        Expect.same("commit", x.commit(1, 0), DONE);
        Expect.same("entries", x.figure(12), inCandidate + inRunning + (due == '-' ? 0 : 1));
        Expect.same("the leaf", seen(x, 3, 2, 70, 1), due == '-' ? '.' : due);
        Expect.same("the leaf before it", seen(x, 3, 2, 70, 0), '.');
        Expect.same("the leaf behind it", seen(x, 3, 2, 70, 2), '.');
        for (int i = 0; i < 2; i++) {
            Expect.same("another one of its own", seen(x, 3, 2, 20 + i, 1),
                    i < inCandidate ? '3' : '.');
            Expect.same("another one of running", seen(x, 3, 2, 30 + i, 1),
                    i < inRunning ? '3' : '.');
        }
    }

    /** Entries of list 2 with leaves that are set otherwise than those of the entry behind them. */
    private static void others(SettingsDesk x, int s, int firstKey, int count, boolean there) {
        for (int key = firstKey; key < firstKey + count; key++) {
            x.entry(s, 2, key, there);
            for (int leaf = 0; leaf < 3 && there; leaf++) {
                x.set(s, 2, key, leaf, 3);
            }
        }
    }

    private static void allCases(int list, int key, int leaf, int from) {
        for (int b = from; b < 4; b++) {
            for (int c = from; c < 4; c++) {
                for (int r = from; r < 4; r++) {
                    String states = "" + STATES.charAt(b) + STATES.charAt(c) + STATES.charAt(r);
                    Expect.about("Terms, merge of list " + list + ", leaf " + leaf
                            + ", base, candidate and running " + states);
                    SettingsDesk x = prepared(list, key, leaf, states);
                    merged(x, list, key, leaf, states.charAt(2), OUTCOMES[b][c].charAt(r));
                }
            }
        }
    }

    private static void merged(SettingsDesk x, int list, int key, int leaf, char running,
            char due) {
        int changes = x.figure(0);
        boolean clash = due == 'E' || due == 'L';
        Expect.same("commit", x.commit(1, 0), clash ? CLASH : DONE);
        char now = clash ? running : due;
        if (clash) {
            trouble(x, list, key, due == 'E' ? NONE : leaf);
        } else {
            Expect.fails("the candidate is the outcome", Expect.INDEX, () -> x.diff(1, 0, 0));
        }
        Expect.same("entries", x.figure(10 + list), now == '-' ? 0 : 1);
        for (int other = 0; other < 4; other++) {
            Expect.same("leaf " + other, seen(x, 3, list, key, other),
                    other == leaf && now != '-' ? now : '.');
        }
        Expect.same("changes", x.figure(0) - changes, now == running ? 0 : 1);
    }

    /** An entry that all three have: its leaves are merged each by itself. */
    private static void twoLeaves() {
        Expect.about("Terms, merge of two leaves");
        for (int first = 0; first < 27; first++) {
            for (int second = 0; second < 27; second++) {
                SettingsDesk x = desk();
                bothLeaves(x, 0, first % 3, second % 3);
                x.commit(0, 0);
                x.begin(1);
                bothLeaves(x, 0, first / 9, second / 9);
                x.commit(0, 0);
                bothLeaves(x, 1, first / 3 % 3, second / 3 % 3);
                char one = outcome(first);
                char two = outcome(second);
                boolean clash = one == 'L' || two == 'L';
                Expect.same("commit", x.commit(1, 0), clash ? CLASH : DONE);
                if (clash) {
                    trouble(x, 1, 7, one == 'L' ? 0 : 1);
                } else {
                    Expect.same("leaf 0", seen(x, 3, 1, 7, 0), one);
                    Expect.same("leaf 1", seen(x, 3, 1, 7, 1), two);
                }
            }
        }
    }

    private static void bothLeaves(SettingsDesk x, int s, int first, int second) {
        make(x, s, 1, 7, 0, STATES.charAt(1 + first));
        make(x, s, 1, 7, 1, STATES.charAt(1 + second));
    }

    private static char outcome(int states) {
        return OUTCOMES[1 + states % 3][1 + states / 3 % 3].charAt(1 + states / 9);
    }

    private static void runningIsTheBase() {
        Expect.about("Terms, merge: the running set is the base");
        SettingsDesk x = desk();
        make(x, 0, 1, 1, 0, '1');
        make(x, 0, 2, 1, 0, '1');
        x.commit(0, 0);
        x.begin(1);
        make(x, 0, 1, 1, 0, '2');
        x.commit(0, 0);
        make(x, 0, 1, 1, 0, '1');
        x.commit(0, 0);
        make(x, 1, 1, 1, 0, '-');
        make(x, 1, 2, 1, 0, '2');
        make(x, 1, 3, 1, 0, '.');
        Expect.same("again, after two changes", x.commit(1, 0), DONE);
        Expect.same("list 1", x.figure(11), 0);
        Expect.same("list 2", x.get(3, 2, 1, 0), 2);
        Expect.same("list 3", x.figure(13), 1);
    }

    private static void awayAndThereAgain() {
        Expect.about("Terms, merge: an entry with the same settings");
        SettingsDesk x = desk();
        make(x, 0, 1, 5, 0, '1');
        x.commit(0, 0);
        x.begin(1);
        x.begin(2);
        make(x, 0, 1, 5, 0, '2');
        x.commit(0, 0);
        x.entry(1, 1, 5, false);
        x.entry(1, 1, 5, true);
        x.entry(2, 1, 5, false);
        x.entry(2, 1, 5, true);
        x.set(1, 1, 5, 0, 1);
        Expect.same("made again alike", x.commit(1, 0), DONE);
        Expect.same("so as in running", x.get(3, 1, 5, 0), 2);
        Expect.same("made again without the setting", x.commit(2, 0), CLASH);
        trouble(x, 1, 5, 0);
    }

    /** For each two places of a clash, the first by its path counts. */
    private static void firstClash() {
        Expect.about("Terms: the first clash in the order of paths");
        int[][] places = {{0, 0, 0}, {0, 0, 1}, {1, 9, 0}, {1, 9, 1}, {1, 10, 0}, {1, 100, 1},
            {2, 1, 0}, {2, 1, 1}, {2, 2, 0}, {3, 1, 0}};
        for (int first = 0; first < places.length; first++) {
            for (int second = first; second < places.length; second++) {
                SettingsDesk x = desk();
                for (int[] place : new int[][] {places[second], places[first]}) {
                    make(x, 0, place[0], place[1], place[2], '1');
                    make(x, 1, place[0], place[1], place[2], '2');
                }
                x.commit(0, 0);
                Expect.same("commit", x.commit(1, 0), CLASH);
                trouble(x, places[first][0], places[first][1], places[first][2]);
            }
        }
    }

    private static void entryBeforeLeaves() {
        Expect.about("Terms: an entry's clash and those of leaves");
        for (int entryKey = 1; entryKey <= 2; entryKey++) {
            int leafKey = 3 - entryKey;
            SettingsDesk x = desk();
            make(x, 0, 1, 1, 1, '1');
            make(x, 0, 1, 2, 1, '1');
            x.commit(0, 0);
            x.begin(1);
            x.begin(2);
            make(x, 0, 1, entryKey, 1, '-');
            make(x, 0, 1, leafKey, 1, '2');
            x.commit(0, 0);
            make(x, 1, 1, entryKey, 1, '.');
            make(x, 1, 1, leafKey, 1, '.');
            Expect.same("away there", x.commit(1, 0), CLASH);
            trouble(x, 1, 1, entryKey == 1 ? NONE : 1);
            make(x, 2, 1, leafKey, 1, '-');
            make(x, 2, 1, entryKey, 0, '2');
            Expect.same("away here and there", x.commit(2, 0), CLASH);
            trouble(x, 1, 1, NONE);
        }
    }

    private static void twoKeysAlike() {
        Expect.about("Terms, merge: for each list and key");
        SettingsDesk x = desk();
        for (int key = 1; key <= 3; key++) {
            make(x, 0, 1, key, 0, '1');
            make(x, 0, 2, key, 0, '2');
        }
        x.commit(0, 0);
        x.begin(1);
        make(x, 0, 1, 1, 0, '-');
        make(x, 0, 2, 3, 0, '-');
        make(x, 0, 2, 50, 0, '1');
        x.commit(0, 0);
        make(x, 1, 1, 3, 0, '-');
        make(x, 1, 2, 1, 0, '-');
        make(x, 1, 1, 50, 0, '2');
        Expect.same("commit", x.commit(1, 0), DONE);
        String[] due = {".1...2", ".2...1"};
        int[] keys = {1, 2, 3, 4, 49, 50};
        for (int i = 0; i < keys.length; i++) {
            Expect.same("list 1, key " + keys[i], seen(x, 3, 1, keys[i], 0), due[0].charAt(i));
            Expect.same("list 2, key " + keys[i], seen(x, 3, 2, keys[i], 0), due[1].charAt(i));
        }
        Expect.same("entries of list 1", x.figure(11), 2);
        Expect.same("entries of list 2", x.figure(12), 2);
    }

    private static void mergedBesideAClash() {
        Expect.about("Terms, merge: an entry merged by leaves, a clash in the next");
        for (int leaf = 0; leaf < 4; leaf++) {
            SettingsDesk x = desk();
            make(x, 0, 1, 1, 0, '1');
            make(x, 0, 1, 2, leaf, '1');
            x.commit(0, 0);
            x.begin(1);
            make(x, 0, 1, 1, 2, '1');
            make(x, 0, 1, 2, leaf, '2');
            x.commit(0, 0);
            make(x, 1, 1, 1, 3, '2');
            x.set(1, 1, 2, leaf, 3);
            Expect.same("commit", x.commit(1, 0), CLASH);
            trouble(x, 1, 2, leaf);
            x.set(1, 1, 2, leaf, 1);
            Expect.same("without the clash", x.commit(1, 0), DONE);
            Expect.same("as in running", seen(x, 3, 1, 2, leaf), '2');
            String due = "1.12";
            for (int other = 0; other < 4; other++) {
                Expect.same("merged", seen(x, 3, 1, 1, other), due.charAt(other));
            }
        }
    }

    /** Base, candidate and running have 6 entries each with keys of their own. */
    private static void manyKeys() {
        Expect.about("Terms, merge: 18 keys in a list");
        SettingsDesk x = desk();
        replaceAll(x, 0, 30, 1);
        x.commit(0, 0);
        x.begin(1);
        x.begin(2);
        replaceAll(x, 0, 1, 2);
        x.commit(0, 0);
        Expect.same("a candidate that is its base", x.commit(2, 0), DONE);
        Expect.same("no change more", x.figure(0), 2);
        Expect.same("the last key", x.get(2, 3, 17, 0), 2);
        replaceAll(x, 1, 1, 3);
        Expect.same("12 are left", x.commit(1, 0), SettingsDesk.INVALID);
        Expect.same("the fault", x.figure(5), 5);
        Expect.same("its list", x.figure(6), 3);
        for (int i = 5; i >= 0; i--) {
            Expect.same("one less is not enough", x.commit(1, 0), SettingsDesk.INVALID);
            x.entry(1, 3, 3 + 3 * i, false);
        }
        Expect.same("6 are left", x.commit(1, 0), DONE);
        for (int i = 0; i < 6; i++) {
            Expect.same("as in running", x.get(1, 3, 2 + 3 * i, 0), 2);
        }
    }

    /** Takes away the 6 entries of list 3 from the key before on, and makes 6 others. */
    private static void replaceAll(SettingsDesk x, int s, int before, int first) {
        for (int i = 0; i < 6; i++) {
            x.entry(s, 3, before + 3 * i, false);
        }
        for (int i = 0; i < 6; i++) {
            x.entry(s, 3, first + 3 * i, true);
            x.set(s, 3, first + 3 * i, 0, first);
        }
    }

    private static void clashLeavesTheBase() {
        Expect.about("Terms, merge: a clash can be mended");
        SettingsDesk x = desk();
        make(x, 0, 1, 1, 0, '1');
        make(x, 1, 1, 1, 0, '2');
        x.commit(0, 0);
        Expect.same("it clashes", x.commit(1, 0), CLASH);
        Expect.same("and again", x.commit(1, 0), CLASH);
        make(x, 1, 1, 1, 0, '1');
        make(x, 1, 1, 1, 1, '2');
        Expect.same("the same in both", x.commit(1, 0), DONE);
        make(x, 2, 1, 1, 0, '2');
        Expect.same("another session", x.commit(2, 0), CLASH);
        x.rollback(2, 0);
        make(x, 2, 1, 1, 0, '2');
        Expect.same("with the running set as its base", x.commit(2, 0), DONE);
        Expect.same("its setting", x.get(3, 1, 1, 0), 2);
    }
}
