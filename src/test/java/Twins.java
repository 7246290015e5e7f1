import java.util.ArrayList;
import java.util.List;
import java.util.function.IntSupplier;

/**
 * Two desks after the same calls. One of them is asked one thing more, which must change nothing;
 * then both are asked the same questions, and must answer alike. Each kind of question has twins of
 * its own, since the questions change what they ask about, and 512 calls are all that a desk has.
 * Questions that are answered come before those that are refused: if a refused call did change
 * something, one that both twins are asked would hide it.
 */
final class Twins {
    interface Calls {
        void on(SettingsDesk x);
    }

    private interface Questions {
        void ask(SettingsDesk x, List<String> answers);
    }

    private static final Questions TROUBLE = Twins::askTrouble;

    private static final Questions[] ALL = {
        TROUBLE, Twins::askFigures, Twins::askRoomForLists, Twins::askRoomForLeaves,
        Twins::askRoomForRules, Twins::askStandards, Twins::askValues, Twins::askSets,
        Twins::askDifferences, Twins::askCommits, Twins::askTicks, Twins::askLocks,
        Twins::askOlder, Twins::askSaves, Twins::askFirstSaves, Twins::askEntries,
    };

    private Twins() {
    }

    /** The call throws just this, and changes nothing. */
    static void refuse(String what, Calls before, Calls call,
            Class<? extends RuntimeException> due) {
        SettingsDesk x = new SettingsDesk();
        before.on(x);
        Expect.fails(what, due, () -> call.on(x));
        compare(what, before, made -> tryOut(call, made), null);
    }

    /** The call answers, and changes nothing. */
    static void idle(String what, Calls before, Calls call) {
        compare(what, before, call, null);
    }

    /** The call answers, and changes nothing but what figure() tells of the latest refused commit. */
    static void idleButTrouble(String what, Calls before, Calls call) {
        compare(what, before, call, TROUBLE);
    }

    private static void tryOut(Calls call, SettingsDesk x) {
        try {
            call.on(x);
        } catch (RuntimeException e) {
            // What it throws was looked at before; here it counts what it leaves.
        }
    }

    private static void compare(String what, Calls before, Calls call, Questions without) {
        for (Questions questions : ALL) {
            if (questions == without) {
                continue;
            }
            for (boolean reboots : new boolean[] {false, true}) {
                Expect.alike(what, answers(before, x -> { }, questions, reboots),
                        answers(before, call, questions, reboots));
            }
        }
    }

    private static List<String> answers(Calls before, Calls call, Questions questions,
            boolean reboots) {
        SettingsDesk x = new SettingsDesk();
        before.on(x);
        call.on(x);
        List<String> answers = new ArrayList<>();
        if (reboots) {
            // Of a desk without power little can be seen before it comes back.
            note(answers, "reboot()", () -> bit(x.reboot()));
        }
        questions.ask(x, answers);
        return answers;
    }

    private static int bit(boolean value) {
        return value ? 1 : 0;
    }

    private static boolean note(List<String> answers, String call, IntSupplier made) {
        try {
            answers.add(call + ": " + made.getAsInt());
            return true;
        } catch (RuntimeException e) {
            answers.add(call + ": " + e.getClass().getSimpleName());
            return false;
        }
    }

    private static void askTrouble(SettingsDesk x, List<String> answers) {
        for (int what = 5; what <= 8; what++) {
            int asked = what;
            note(answers, "figure(" + what + ")", () -> x.figure(asked));
        }
    }

    private static void askFigures(SettingsDesk x, List<String> answers) {
        for (int what : new int[] {-1, 0, 1, 2, 3, 4, 9, 10, 11, 12, 13, 14}) {
            note(answers, "figure(" + what + ")", () -> x.figure(what));
        }
        note(answers, "cut(NONE)", () -> bit(x.cut(-1)));
    }

    private static void askRoomForLists(SettingsDesk x, List<String> answers) {
        for (int i = 0; i < 4; i++) {
            note(answers, "list", x::list);
        }
        askReady(x, answers);
    }

    private static void askReady(SettingsDesk x, List<String> answers) {
        note(answers, "ready", () -> bit(x.ready()));
        note(answers, "begin", () -> x.begin(1));
        note(answers, "begin", () -> x.begin(2));
    }

    private static void askRoomForLeaves(SettingsDesk x, List<String> answers) {
        for (int list = 0; list < 4; list++) {
            int of = list;
            for (int i = 0; i < 5; i++) {
                note(answers, "leaf of " + list, () -> x.leaf(of, 0, 0, 0, 0));
            }
        }
        askReady(x, answers);
    }

    private static void askRoomForRules(SettingsDesk x, List<String> answers) {
        for (int i = 0; i < 5; i++) {
            note(answers, "rule", () -> x.rule(0, 0, 0, 0, true));
        }
        askReady(x, answers);
    }

    /** What the leaves of an empty entry of each list are. */
    private static void askStandards(SettingsDesk x, List<String> answers) {
        askReady(x, answers);
        for (int list = 1; list < 4; list++) {
            int of = list;
            note(answers, "entry", () -> bit(x.entry(2, of, 77, true)));
            for (int leaf : new int[] {1, 0, 2, 3}) {
                note(answers, "standard " + list + " " + leaf, () -> x.get(2, of, 77, leaf));
            }
            note(answers, "commit", () -> x.commit(2, 0));
        }
    }

    /** Which values the leaves of each list take. */
    private static void askValues(SettingsDesk x, List<String> answers) {
        askReady(x, answers);
        for (int list = 0; list < 4; list++) {
            int of = list;
            int key = list == 0 ? 0 : 77;
            if (list > 0) {
                note(answers, "entry", () -> bit(x.entry(2, of, key, true)));
            }
            for (int leaf = 0; leaf < 4; leaf++) {
                int asked = leaf;
                for (int value : new int[] {5, 1, 0, 9, 10, 6, -1, -5, -6, 100, 101}) {
                    note(answers, "set " + list + " " + leaf + " to " + value, () -> {
                        x.set(2, of, key, asked, value);
                        return 0;
                    });
                }
            }
            note(answers, "commit", () -> x.commit(2, 0));
        }
    }

    private static void askSets(SettingsDesk x, List<String> answers) {
        for (int which = 0; which <= 4; which++) {
            for (int list = 0; list < 4; list++) {
                for (int key = list == 0 ? 0 : 1; key <= (list == 0 ? 0 : 4); key++) {
                    askEntry(x, answers, which, list, key);
                }
            }
        }
    }

    private static void askEntry(SettingsDesk x, List<String> answers, int which, int list,
            int key) {
        for (int leaf = 0; leaf < 4; leaf++) {
            int asked = leaf;
            note(answers, "get(" + which + ", " + list + ", " + key + ", " + leaf + ")",
                    () -> x.get(which, list, key, asked));
        }
    }

    private static void askDifferences(SettingsDesk x, List<String> answers) {
        for (int s = 0; s < 3; s++) {
            int of = s;
            boolean more = true;
            for (int k = 0; k < 30 && more; k++) {
                int asked = k;
                for (int what = 0; what < 4; what++) {
                    int part = what;
                    more = note(answers, "diff(" + s + ", " + k + ", " + what + ")",
                            () -> x.diff(of, asked, part));
                }
            }
        }
    }

    /** A commit tells the base, too. */
    private static void askCommits(SettingsDesk x, List<String> answers) {
        note(answers, "confirm", () -> bit(x.confirm()));
        int[] sessions = {1, 0, 2};
        for (int s : sessions) {
            note(answers, "lock", () -> bit(x.lock(s, false)));
            note(answers, "commit " + s, () -> x.commit(s, 0));
            note(answers, "changes", () -> x.figure(0));
        }
        for (int s : sessions) {
            askEntry(x, answers, s, 1, 1);
            askEntry(x, answers, s, 0, 0);
        }
        note(answers, "begun", () -> x.begin(0));
        askDifferences(x, answers);
    }

    private static void askTicks(SettingsDesk x, List<String> answers) {
        for (int i = 0; i < 8; i++) {
            note(answers, "figure(2)", () -> x.figure(2));
            note(answers, "tick", () -> bit(x.tick()));
            note(answers, "figure(0)", () -> x.figure(0));
        }
        askEntry(x, answers, 3, 0, 0);
        askEntry(x, answers, 3, 1, 1);
    }

    private static void askLocks(SettingsDesk x, List<String> answers) {
        for (boolean takes : new boolean[] {true, false, true}) {
            for (int s = 0; s < 3; s++) {
                int of = s;
                note(answers, "lock(" + s + ", " + takes + ")", () -> bit(x.lock(of, takes)));
            }
            note(answers, "figure(3)", () -> x.figure(3));
        }
    }

    private static void askOlder(SettingsDesk x, List<String> answers) {
        note(answers, "begin", () -> x.begin(2));
        for (int n = 1; n <= 3; n++) {
            int ago = n;
            note(answers, "rollback " + n, () -> x.rollback(2, ago));
            note(answers, "an entry", () -> x.get(2, 1, 1, 0));
        }
        for (int n : new int[] {1, 2, 3, 4, 5, 6, 7, 8, 0, 9, -1}) {
            note(answers, "rollback " + n, () -> x.rollback(2, n));
            askEntry(x, answers, 2, 1, 1);
            askEntry(x, answers, 2, 0, 0);
            askEntry(x, answers, 2, 1, 2);
        }
    }

    /** When the power fails, and what is there when it comes back. */
    private static void askSaves(SettingsDesk x, List<String> answers) {
        note(answers, "first save", x::save);
        note(answers, "cut to come", () -> x.figure(4));
        for (int i = 0; i < 20; i++) {
            note(answers, "save " + i, x::save);
        }
        note(answers, "reboot", () -> bit(x.reboot()));
        note(answers, "save", x::save);
        askFigures(x, answers);
        askSets(x, answers);
    }

    private static void askFirstSaves(SettingsDesk x, List<String> answers) {
        askReady(x, answers);
        askSaves(x, answers);
    }

    private static void askEntries(SettingsDesk x, List<String> answers) {
        for (int s = 0; s < 3; s++) {
            for (int list = 0; list < 4; list++) {
                int of = s;
                int in = list;
                for (int key = 1; key <= 8; key++) {
                    int asked = key;
                    note(answers, "entry(" + s + ", " + list + ", " + key + ")",
                            () -> bit(x.entry(of, in, asked, true)));
                }
            }
        }
    }
}
