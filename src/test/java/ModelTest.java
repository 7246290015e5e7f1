import java.util.Map;
import java.util.TreeMap;
import java.util.function.IntSupplier;

/** Long runs of calls, each answer compared with the model's; the same runs every time. */
public final class ModelTest {
    private static final int RUNS = 4000;
    /** What an object answers beyond this many calls is free. */
    private static final int CALLS = 512;
    private static final int FIGURES = 17;

    /** What happened over all runs, so that a run of calls that reaches nothing does not pass. */
    private static final Map<String, Integer> seen = new TreeMap<>();

    private static long seed = 20261115L;
    private static int keys = 6;
    private static int lists = 4;
    /** Runs without faults of single entries, and with many entries, come to crowded lists. */
    private static boolean easy = false;
    private static boolean crowd = false;
    private static int calls = 0;

    public static void main(String[] args) {
        for (int run = 0; run < RUNS; run++) {
            Expect.about("run " + run);
            if (!agrees()) {
                break;
            }
        }
        Expect.about("all runs");
        reached();
        Expect.end();
    }

    private static int below(int bound) {
        seed = seed * 6364136223846793005L + 1442695040888963407L;
        return (int) ((seed >>> 33) % bound);
    }

    private static boolean chance(int percent) {
        return below(100) < percent;
    }

    /** Mostly from low to high, now and then a little beyond. */
    private static int near(int low, int high) {
        return chance(3) ? (chance(50) ? low - 1 : high + 1) : low + below(high - low + 1);
    }

    private static int aKey() {
        if (chance(3)) {
            return near(0, 101);
        }
        return 1 + below(keys);
    }

    private static boolean agrees() {
        SettingsDesk x = new SettingsDesk();
        Model m = new Model();
        crowd = chance(25);
        easy = crowd || chance(25);
        keys = crowd ? 14 : 1 + below(10);
        lists = crowd ? 2 : 1 + below(4);
        calls = 0;
        boolean same = true;
        for (int call = 0; call < 30 && same; call++) {
            same = schemaCall(x, m, call);
        }
        while (same && calls < CALLS - FIGURES) {
            same = chance(30) ? figureAgrees(x, m, near(0, 14)) : editCall(x, m);
        }
        for (int what = -1; what < FIGURES - 1 && same; what++) {
            same = figureAgrees(x, m, what);
        }
        return same;
    }

    private static boolean schemaCall(SettingsDesk x, Model m, int call) {
        if (call < 4) {
            return call >= lists - 1 || compare("list()", x::list, m::list);
        }
        int list = near(0, lists - 1);
        int leaf = near(0, 2);
        int other = near(0, 2);
        if (call == 29) {
            return compare("ready()", () -> bit(x.ready()), () -> bit(m.ready()));
        }
        if (call < 18) {
            int kind = easy && chance(90) ? 0 : near(0, 1);
            int low = kind == 1 ? near(0, lists - 1) : near(-1, 1);
            int high = near(1, 9);
            int flags = easy || chance(80) ? 0 : near(0, 3);
            return compare("leaf(" + list + ", " + kind + ", " + low + ", " + high + ", " + flags + ")",
                    () -> x.leaf(list, kind, low, high, flags),
                    () -> m.leaf(list, kind, low, high, flags));
        }
        int value = near(0, 3);
        if (call < 23) {
            return compare("standard(" + list + ", " + leaf + ", " + value + ")",
                    () -> {
                        x.standard(list, leaf, value);
                        return 0;
                    }, () -> m.standard(list, leaf, value));
        }
        boolean there = chance(50);
        return call % 2 == 0 || easy || compare(
                "rule(" + list + ", " + leaf + ", " + value + ", " + other + ", " + there + ")",
                () -> x.rule(list, leaf, value, other, there),
                () -> m.rule(list, leaf, value, other, there));
    }

    private static boolean editCall(SettingsDesk x, Model m) {
        int s = near(0, 2);
        int list = chance(15) ? 0 : near(0, lists - 1);
        int key = list == 0 && chance(97) ? 0 : aKey();
        int leaf = near(0, chance(50) ? 1 : 3);
        int value = chance(50) ? near(0, 4) : aKey();
        boolean on = chance(crowd ? 95 : 75);
        int pick = below(100);
        if (!m.hasBegun(s) && chance(50)) {
            return compare("begin(" + s + ")", () -> x.begin(s), () -> m.begin(s));
        }
        if (pick < 22 && (list > 0 || chance(5))) {
            return compare("entry(" + s + ", " + list + ", " + key + ", " + on + ")",
                    () -> bit(x.entry(s, list, key, on)), () -> bit(m.entry(s, list, key, on)));
        }
        if (pick < 45) {
            return compare("set(" + s + ", " + list + ", " + key + ", " + leaf + ", " + value + ")",
                    () -> {
                        x.set(s, list, key, leaf, value);
                        return 0;
                    }, () -> m.set(s, list, key, leaf, value));
        }
        if (pick < 50) {
            return compare("unset(" + s + ", " + list + ", " + key + ", " + leaf + ")",
                    () -> bit(x.unset(s, list, key, leaf)), () -> bit(m.unset(s, list, key, leaf)));
        }
        if (pick < 58) {
            int which = near(0, 4);
            return compare("get(" + which + ", " + list + ", " + key + ", " + leaf + ")",
                    () -> x.get(which, list, key, leaf), () -> m.get(which, list, key, leaf));
        }
        return pick < 80 ? sessionCall(x, m, s) : deskCall(x, m, s);
    }

    private static boolean sessionCall(SettingsDesk x, Model m, int s) {
        int pick = below(100);
        if (pick < 55) {
            int ticks = chance(crowd ? 95 : 70) ? 0 : chance(5) ? near(0, 1000) : near(0, 3);
            int refused = refusedCommits();
            boolean same = compare("commit(" + s + ", " + ticks + ")",
                    () -> x.commit(s, ticks), () -> m.commit(s, ticks));
            if (refusedCommits() > refused) {
                countTrouble(m);
            }
            count("older " + m.figure(1));
            return same;
        }
        if (pick < (crowd ? 60 : 72)) {
            return compare("begin(" + s + ")", () -> x.begin(s), () -> m.begin(s));
        }
        if (pick < (crowd ? 65 : 90)) {
            int n = chance(80) ? near(0, 2) : near(0, 8);
            return compare("rollback(" + s + ", " + n + ")",
                    () -> x.rollback(s, n), () -> m.rollback(s, n));
        }
        boolean takes = chance(crowd ? 5 : 30);
        return compare("lock(" + s + ", " + takes + ")",
                () -> bit(x.lock(s, takes)), () -> bit(m.lock(s, takes)));
    }

    private static boolean deskCall(SettingsDesk x, Model m, int s) {
        int pick = below(100);
        if (pick < 40) {
            int k = chance(80) ? near(0, 5) : near(0, 30);
            int what = near(0, 3);
            return compare("diff(" + s + ", " + k + ", " + what + ")",
                    () -> x.diff(s, k, what), () -> m.diff(s, k, what));
        }
        if (pick < 65) {
            return compare("tick()", () -> bit(x.tick()), () -> bit(m.tick()));
        }
        if (pick < 73) {
            return compare("confirm()", () -> bit(x.confirm()), () -> bit(m.confirm()));
        }
        if (pick < 85) {
            return compare("save()", x::save, m::save);
        }
        if (pick < 88) {
            int n = chance(90) ? near(-1, 12) : near(-1, 1000);
            return compare("cut(" + n + ")", () -> bit(x.cut(n)), () -> bit(m.cut(n)));
        }
        if (pick < 99) {
            return compare("reboot()", () -> bit(x.reboot()), () -> bit(m.reboot()));
        }
        return compare("list()", x::list, m::list);
    }

    private static boolean figureAgrees(SettingsDesk x, Model m, int what) {
        return compare("figure(" + what + ")", () -> x.figure(what), () -> m.figure(what));
    }

    private static int refusedCommits() {
        return seen.getOrDefault("commit 1", 0) + seen.getOrDefault("commit 2", 0);
    }

    private static void countTrouble(Model m) {
        count("fault " + m.figure(5));
        if (m.figure(5) == 0) {
            count(m.figure(8) < 0 ? "clash of an entry" : "clash of a leaf");
        }
    }

    private static boolean compare(String call, IntSupplier desk, IntSupplier model) {
        calls++;
        String got = answer(desk);
        String due = answer(model);
        count(call.substring(0, call.indexOf('(')) + " " + due);
        if (got.equals(due)) {
            return true;
        }
        Expect.tell(call + " answered " + got + ", due is " + due);
        return false;
    }

    private static String answer(IntSupplier call) {
        try {
            return Integer.toString(call.getAsInt());
        } catch (RuntimeException e) {
            return e.getClass().getSimpleName();
        }
    }

    private static int bit(boolean value) {
        return value ? 1 : 0;
    }

    private static void count(String what) {
        seen.merge(what, 1, Integer::sum);
    }

    private static void reached() {
        String[] due = {
            "commit 0", "commit 1", "commit 2", "commit 3", "commit IllegalArgumentException",
            "fault 1", "fault 2", "fault 3", "fault 4", "fault 5",
            "clash of an entry", "clash of a leaf", "older 8", "tick 1", "confirm 1", "reboot 1",
            "save -1", "save 5", "lock 0", "lock 1", "ready 0", "ready 1", "diff 3", "diff -1",
            "rollback 8", "rollback IllegalArgumentException", "begin 3", "unset 1",
            "entry UnsupportedOperationException", "set IllegalArgumentException",
            "get UnsupportedOperationException", "cut 1", "cut IllegalArgumentException",
        };
        for (String what : due) {
            Expect.yes("often enough: " + what, seen.getOrDefault(what, 0) >= 100);
        }
    }
}
