import java.util.Map;
import java.util.TreeMap;
import java.util.function.IntSupplier;

/** Long runs of calls, each answer compared with the model's; the same runs every time. */
public final class ModelTest {
    private static final int RUNS = 2500;
    private static final int CALLS = 480;

    /** What happened over all runs, so that a run of calls that reaches nothing does not pass. */
    private static final Map<String, Integer> seen = new TreeMap<>();

    private static long seed = 20261115L;
    private static int keys = 6;
    private static int lists = 4;

    public static void main(String[] args) {
        for (int run = 0; run < RUNS; run++) {
            Expect.about("run " + run);
            if (!agrees()) {
                break;
            }
        }
        Expect.about("all runs");
        reached();
        Expect.end();
    }

    private static int below(int bound) {
        seed = seed * 6364136223846793005L + 1442695040888963407L;
        return (int) ((seed >>> 33) % bound);
    }

    private static boolean chance(int percent) {
        return below(100) < percent;
    }

    /** Mostly from low to high, now and then a little beyond. */
    private static int near(int low, int high) {
        return chance(3) ? (chance(50) ? low - 1 : high + 1) : low + below(high - low + 1);
    }

    private static int aKey() {
        if (chance(3)) {
            return near(0, 101);
        }
        return 1 + below(keys);
    }

    private static boolean agrees() {
        SettingsDesk x = new SettingsDesk();
        Model m = new Model();
        keys = chance(40) ? 12 : 1 + below(7);
        lists = 1 + below(4);
        boolean same = true;
        for (int call = 0; call < CALLS && same; call++) {
            if (call < 30) {
                same = schemaCall(x, m, call);
            } else {
                same = editCall(x, m) && figuresAgree(x, m);
            }
        }
        return same;
    }

    private static boolean schemaCall(SettingsDesk x, Model m, int call) {
        if (call < 4) {
            return call >= lists - 1 || compare("list()", x::list, m::list);
        }
        int list = near(0, lists - 1);
        int leaf = near(0, 2);
        int other = near(0, 2);
        if (call == 29) {
            return compare("ready()", () -> bit(x.ready()), () -> bit(m.ready()));
        }
        if (call < 18) {
            int kind = near(0, 1);
            int low = kind == 1 ? near(0, lists - 1) : near(-1, 1);
            int high = near(1, 9);
            int flags = chance(80) ? 0 : near(0, 3);
            return compare("leaf(" + list + ", " + kind + ", " + low + ", " + high + ", " + flags + ")",
                    () -> x.leaf(list, kind, low, high, flags),
                    () -> m.leaf(list, kind, low, high, flags));
        }
        int value = near(0, 3);
        if (call < 23) {
            return compare("standard(" + list + ", " + leaf + ", " + value + ")",
                    () -> {
                        x.standard(list, leaf, value);
                        return 0;
                    }, () -> m.standard(list, leaf, value));
        }
        boolean there = chance(50);
        return call % 2 == 0 || compare(
                "rule(" + list + ", " + leaf + ", " + value + ", " + other + ", " + there + ")",
                () -> x.rule(list, leaf, value, other, there),
                () -> m.rule(list, leaf, value, other, there));
    }

    private static boolean editCall(SettingsDesk x, Model m) {
        int s = near(0, 2);
        int list = near(0, lists - 1);
        int key = list == 0 && chance(97) ? 0 : aKey();
        int leaf = near(0, chance(50) ? 1 : 3);
        int value = chance(50) ? near(0, 4) : aKey();
        boolean on = chance(75);
        int pick = below(100);
        if (pick < 22) {
            return compare("entry(" + s + ", " + list + ", " + key + ", " + on + ")",
                    () -> bit(x.entry(s, list, key, on)), () -> bit(m.entry(s, list, key, on)));
        }
        if (pick < 45) {
            return compare("set(" + s + ", " + list + ", " + key + ", " + leaf + ", " + value + ")",
                    () -> {
                        x.set(s, list, key, leaf, value);
                        return 0;
                    }, () -> m.set(s, list, key, leaf, value));
        }
        if (pick < 50) {
            return compare("unset(" + s + ", " + list + ", " + key + ", " + leaf + ")",
                    () -> bit(x.unset(s, list, key, leaf)), () -> bit(m.unset(s, list, key, leaf)));
        }
        if (pick < 58) {
            int which = near(0, 4);
            return compare("get(" + which + ", " + list + ", " + key + ", " + leaf + ")",
                    () -> x.get(which, list, key, leaf), () -> m.get(which, list, key, leaf));
        }
        return pick < 80 ? sessionCall(x, m, s) : deskCall(x, m, s);
    }

    private static boolean sessionCall(SettingsDesk x, Model m, int s) {
        int pick = below(100);
        if (pick < 55) {
            int ticks = chance(70) ? 0 : chance(5) ? near(0, 1000) : near(0, 3);
            return compare("commit(" + s + ", " + ticks + ")",
                    () -> x.commit(s, ticks), () -> m.commit(s, ticks));
        }
        if (pick < 85) {
            return compare("begin(" + s + ")", () -> x.begin(s), () -> m.begin(s));
        }
        if (pick < 93) {
            int n = chance(80) ? near(0, 2) : near(0, 8);
            return compare("rollback(" + s + ", " + n + ")",
                    () -> x.rollback(s, n), () -> m.rollback(s, n));
        }
        boolean takes = chance(30);
        return compare("lock(" + s + ", " + takes + ")",
                () -> bit(x.lock(s, takes)), () -> bit(m.lock(s, takes)));
    }

    private static boolean deskCall(SettingsDesk x, Model m, int s) {
        int pick = below(100);
        if (pick < 40) {
            int k = chance(80) ? near(0, 5) : near(0, 30);
            int what = near(0, 3);
            return compare("diff(" + s + ", " + k + ", " + what + ")",
                    () -> x.diff(s, k, what), () -> m.diff(s, k, what));
        }
        if (pick < 65) {
            return compare("tick()", () -> bit(x.tick()), () -> bit(m.tick()));
        }
        if (pick < 73) {
            return compare("confirm()", () -> bit(x.confirm()), () -> bit(m.confirm()));
        }
        if (pick < 85) {
            return compare("save()", x::save, m::save);
        }
        if (pick < 88) {
            int n = chance(90) ? near(-1, 12) : near(-1, 1000);
            return compare("cut(" + n + ")", () -> bit(x.cut(n)), () -> bit(m.cut(n)));
        }
        if (pick < 99) {
            return compare("reboot()", () -> bit(x.reboot()), () -> bit(m.reboot()));
        }
        return compare("list()", x::list, m::list);
    }

    private static boolean figuresAgree(SettingsDesk x, Model m) {
        for (int what = -1; what <= 15; what++) {
            int asked = what;
            if (!compare("figure(" + what + ")", () -> x.figure(asked), () -> m.figure(asked))) {
                return false;
            }
        }
        count("fault " + x.figure(5));
        count(x.figure(8) < 0 && x.figure(5) == 0 ? "clash of an entry" : "clash of a leaf");
        count("older " + x.figure(1));
        return true;
    }

    private static boolean compare(String call, IntSupplier desk, IntSupplier model) {
        String got = answer(desk);
        String due = answer(model);
        count(call.substring(0, call.indexOf('(')) + " " + due);
        if (got.equals(due)) {
            return true;
        }
        Expect.tell(call + " answered " + got + ", due is " + due);
        return false;
    }

    private static String answer(IntSupplier call) {
        try {
            return Integer.toString(call.getAsInt());
        } catch (RuntimeException e) {
            return e.getClass().getSimpleName();
        }
    }

    private static int bit(boolean value) {
        return value ? 1 : 0;
    }

    private static void count(String what) {
        seen.merge(what, 1, Integer::sum);
    }

    private static void reached() {
        String[] due = {
            "commit 0", "commit 1", "commit 2", "commit 3", "commit IllegalArgumentException",
            "fault 1", "fault 2", "fault 3", "fault 4", "fault 5",
            "clash of an entry", "clash of a leaf", "older 8", "tick 1", "confirm 1", "reboot 1",
            "save -1", "save 5", "lock 0", "lock 1", "ready 0", "ready 1", "diff 3", "diff -1",
            "rollback 8", "rollback IllegalArgumentException", "begin 3", "unset 1",
            "entry UnsupportedOperationException", "set IllegalArgumentException",
            "get UnsupportedOperationException", "cut 1", "cut IllegalArgumentException",
        };
        for (String what : due) {
            Expect.yes("often enough: " + what, seen.getOrDefault(what, 0) >= 100);
        }
    }
}
