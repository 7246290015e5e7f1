import java.util.ArrayList;
import java.util.List;
import java.util.Map;
import java.util.Objects;
import java.util.TreeMap;
import java.util.TreeSet;

/**
 * The document told once more, without a thought of room or speed, to compare answers with. A set
 * is a map from paths of entries to their settings; nothing of SettingsDesk's own code is used.
 */
final class Model {
    private static final class Settings extends TreeMap<Integer, TreeMap<Integer, Integer>> {
        private static final long serialVersionUID = 1L;

        static int path(int list, int key) {
            return list * 1000 + key;
        }

        static Settings empty() {
            Settings made = new Settings();
            made.put(path(0, 0), new TreeMap<>());
            return made;
        }

        Settings copy() {
            Settings made = new Settings();
            for (Map.Entry<Integer, TreeMap<Integer, Integer>> each : entrySet()) {
                made.put(each.getKey(), new TreeMap<>(each.getValue()));
            }
            return made;
        }

        TreeMap<Integer, Integer> at(int list, int key) {
            return key < 0 || key > 100 ? null : get(path(list, key));
        }

        int count(int list) {
            return subMap(path(list, 0), path(list, 101)).size();
        }
    }

    private record Leaf(int kind, int low, int high, int flags) {
    }

    private record Rule(int list, int a, int value, int b, boolean there) {
    }

    private final List<List<Leaf>> schema = new ArrayList<>();
    private final Map<Integer, Integer> standards = new TreeMap<>();
    private final List<Rule> rules = new ArrayList<>();
    private boolean ready = false;
    private boolean off = false;
    private int failsBehind = -1;
    private Settings running = Settings.empty();
    private Settings saved = Settings.empty();
    private final List<Settings> older = new ArrayList<>();
    private final Settings[] candidates = new Settings[3];
    private final Settings[] bases = new Settings[3];
    private int owner = -1;
    private int ticks = 0;
    private int changes = 0;
    private int[] told = {0, 0, 0, 0};

    Model() {
        schema.add(new ArrayList<>());
    }

    private static void state(boolean wrong) {
        if (wrong) {
            throw new IllegalStateException();
        }
    }

    private static void index(boolean wrong) {
        if (wrong) {
            throw new IndexOutOfBoundsException();
        }
    }

    private static void argument(boolean wrong) {
        if (wrong) {
            throw new IllegalArgumentException();
        }
    }

    private static void unsupported(boolean wrong) {
        if (wrong) {
            throw new UnsupportedOperationException();
        }
    }

    private boolean noList(int list) {
        return list < 0 || list >= schema.size();
    }

    private boolean noLeaf(int list, int leaf) {
        return noList(list) || leaf < 0 || leaf >= schema.get(list).size();
    }

    private static boolean noSession(int s) {
        return s < 0 || s > 2;
    }

    private boolean takes(int list, int leaf, int value) {
        Leaf l = schema.get(list).get(leaf);
        int low = l.kind == 1 ? 1 : l.low;
        int high = l.kind == 1 ? 100 : l.high;
        return low <= value && value <= high;
    }

    private Integer is(Settings set, int path, int leaf) {
        Integer given = set.get(path).get(leaf);
        return given != null ? given : standards.get(path / 1000 * 10 + leaf);
    }

    int list() {
        state(off || ready || schema.size() == 4);
        schema.add(new ArrayList<>());
        return schema.size() - 1;
    }

    int leaf(int list, int kind, int low, int high, int flags) {
        state(off || ready || !noList(list) && schema.get(list).size() == 4);
        index(noList(list));
        argument(kind != 0 && kind != 1);
        argument(kind == 0 && low > high);
        argument(kind == 1 && (low == 0 || noList(low)));
        argument(flags < 0 || flags > 3);
        schema.get(list).add(new Leaf(kind, low, high, flags));
        return schema.get(list).size() - 1;
    }

    int standard(int list, int leaf, int value) {
        state(off || ready);
        index(noLeaf(list, leaf));
        argument(schema.get(list).get(leaf).kind == 1 || !takes(list, leaf, value));
        standards.put(list * 10 + leaf, value);
        return 0;
    }

    int rule(int list, int a, int value, int b, boolean there) {
        state(off || ready || rules.size() == 4);
        index(noLeaf(list, a) || noLeaf(list, b));
        rules.add(new Rule(list, a, value, b, there));
        return rules.size() - 1;
    }

    boolean ready() {
        state(off || ready);
        ready = true;
        return fault(running) == null;
    }

    private int[] fault(Settings set) {
        for (int list = 0; list < schema.size(); list++) {
            if (set.count(list) > 6) {
                return new int[] {5, list, -1, -1};
            }
        }
        for (int path : set.keySet()) {
            for (int fault = 1; fault <= 4; fault++) {
                int part = part(set, path, fault);
                if (part >= 0) {
                    return new int[] {fault, path / 1000, path % 1000, part};
                }
            }
        }
        return null;
    }

    /** The first leaf, or rule, of an entry that has this fault, or -1. */
    private int part(Settings set, int path, int fault) {
        int list = path / 1000;
        if (fault == 4) {
            for (int r = 0; r < rules.size(); r++) {
                Rule rule = rules.get(r);
                if (rule.list == list && Objects.equals(is(set, path, rule.a), rule.value)
                        && (is(set, path, rule.b) != null) != rule.there) {
                    return r;
                }
            }
            return -1;
        }
        for (int leaf = 0; leaf < schema.get(list).size(); leaf++) {
            Leaf l = schema.get(list).get(leaf);
            Integer value = is(set, path, leaf);
            boolean has = switch (fault) {
                case 1 -> l.flags % 2 == 1 && value == null;
                case 2 -> l.kind == 1 && value != null && set.at(l.low, value) == null;
                default -> l.flags >= 2 && value != null && isBefore(set, path, leaf, value);
            };
            if (has) {
                return leaf;
            }
        }
        return -1;
    }

    private boolean isBefore(Settings set, int path, int leaf, int value) {
        for (int other : set.subMap(path / 1000 * 1000, path).keySet()) {
            if (Objects.equals(is(set, other, leaf), value)) {
                return true;
            }
        }
        return false;
    }

    int begin(int s) {
        state(off || !ready);
        index(noSession(s));
        candidates[s] = running.copy();
        bases[s] = running.copy();
        int count = 0;
        for (Settings each : candidates) {
            count += each != null ? 1 : 0;
        }
        return count;
    }

    boolean hasBegun(int s) {
        return !noSession(s) && candidates[s] != null;
    }

    boolean entry(int s, int list, int key, boolean there) {
        state(off || !ready);
        index(noSession(s) || noList(list));
        state(candidates[s] == null);
        argument(list == 0 || key < 1 || key > 100);
        boolean was = candidates[s].at(list, key) != null;
        unsupported(there && !was && candidates[s].count(list) == 6);
        if (was && !there) {
            candidates[s].remove(Settings.path(list, key));
        } else if (!was && there) {
            candidates[s].put(Settings.path(list, key), new TreeMap<>());
        }
        return was != there;
    }

    int set(int s, int list, int key, int leaf, int value) {
        state(off || !ready);
        index(noSession(s) || noLeaf(list, leaf));
        state(candidates[s] == null || candidates[s].at(list, key) == null);
        argument(!takes(list, leaf, value));
        candidates[s].at(list, key).put(leaf, value);
        return 0;
    }

    boolean unset(int s, int list, int key, int leaf) {
        state(off || !ready);
        index(noSession(s) || noLeaf(list, leaf));
        state(candidates[s] == null || candidates[s].at(list, key) == null);
        return candidates[s].at(list, key).remove(leaf) != null;
    }

    int get(int which, int list, int key, int leaf) {
        state(off || !ready);
        index(which < 0 || which > 4 || noLeaf(list, leaf));
        Settings set = which == 3 ? running : which == 4 ? saved : candidates[which];
        state(set == null);
        unsupported(set.at(list, key) == null);
        Integer value = is(set, Settings.path(list, key), leaf);
        unsupported(value == null);
        return value;
    }

    boolean lock(int s, boolean takes) {
        state(off || !ready);
        index(noSession(s));
        state(candidates[s] == null);
        if (owner == -1 && takes) {
            owner = s;
        }
        if (owner == s && !takes) {
            owner = -1;
        }
        return owner == s;
    }

    private boolean change(Settings next) {
        if (running.equals(next)) {
            return false;
        }
        older.add(0, running);
        if (older.size() == 9) {
            older.remove(8);
        }
        running = next.copy();
        changes++;
        return true;
    }

    /** The outcome, or null when there was a clash, which is told then. */
    private Settings merge(Settings base, Settings candidate) {
        if (running.equals(base)) {
            return candidate.copy();
        }
        Settings outcome = new Settings();
        TreeSet<Integer> paths = new TreeSet<>(base.keySet());
        paths.addAll(candidate.keySet());
        paths.addAll(running.keySet());
        for (int path : paths) {
            TreeMap<Integer, Integer> b = base.get(path);
            TreeMap<Integer, Integer> c = candidate.get(path);
            TreeMap<Integer, Integer> r = running.get(path);
            if (Objects.equals(c, b) || Objects.equals(r, b)) {
                TreeMap<Integer, Integer> taken = Objects.equals(c, b) ? r : c;
                if (taken != null) {
                    outcome.put(path, new TreeMap<>(taken));
                }
            } else if (c != null && r != null) {
                int clash = mergeLeaves(outcome, path, b, c, r);
                if (clash >= 0) {
                    told = new int[] {0, path / 1000, path % 1000, clash};
                    return null;
                }
            } else if (c != null || r != null) {
                told = new int[] {0, path / 1000, path % 1000, -1};
                return null;
            }
        }
        return outcome;
    }

    private static int mergeLeaves(Settings outcome, int path, TreeMap<Integer, Integer> b,
            TreeMap<Integer, Integer> c, TreeMap<Integer, Integer> r) {
        TreeMap<Integer, Integer> made = new TreeMap<>();
        for (int leaf = 0; leaf < 4; leaf++) {
            Integer old = b == null ? null : b.get(leaf);
            Integer mine = c.get(leaf);
            Integer theirs = r.get(leaf);
            Integer taken = Objects.equals(mine, old) ? theirs : mine;
            if (!Objects.equals(mine, old) && !Objects.equals(theirs, old)
                    && !Objects.equals(mine, theirs)) {
                return leaf;
            }
            if (taken != null) {
                made.put(leaf, taken);
            }
        }
        outcome.put(path, made);
        return -1;
    }

    int commit(int s, int forTicks) {
        state(off || !ready);
        index(noSession(s));
        state(candidates[s] == null);
        argument(forTicks < 0 || forTicks > 1000);
        if (ticks > 0 || owner != -1 && owner != s) {
            return 3;
        }
        Settings outcome = merge(bases[s], candidates[s]);
        if (outcome == null) {
            return 1;
        }
        int[] fault = fault(outcome);
        if (fault != null) {
            told = fault;
            return 2;
        }
        if (change(outcome)) {
            ticks = forTicks;
        }
        candidates[s] = outcome.copy();
        bases[s] = outcome.copy();
        return 0;
    }

    boolean confirm() {
        state(off || !ready);
        boolean waited = ticks != 0;
        ticks = 0;
        return waited;
    }

    boolean tick() {
        state(off || !ready);
        if (ticks == 1) {
            change(older.get(0));
        }
        ticks--;
        boolean back = ticks == 0;
        ticks = Math.max(ticks, 0);
        return back;
    }

    int rollback(int s, int n) {
        state(off || !ready);
        index(noSession(s));
        state(candidates[s] == null);
        argument(n < 0 || n > older.size());
        bases[s] = running.copy();
        candidates[s] = (n == 0 ? running : older.get(n - 1)).copy();
        return older.size();
    }

    int diff(int s, int k, int what) {
        state(off || !ready);
        index(noSession(s));
        state(candidates[s] == null);
        List<int[]> all = differences(candidates[s]);
        index(k < 0 || k >= all.size() || what < 0 || what > 3);
        return all.get(k)[what];
    }

    private List<int[]> differences(Settings candidate) {
        List<int[]> all = new ArrayList<>();
        TreeSet<Integer> paths = new TreeSet<>(candidate.keySet());
        paths.addAll(running.keySet());
        for (int path : paths) {
            TreeMap<Integer, Integer> c = candidate.get(path);
            TreeMap<Integer, Integer> r = running.get(path);
            if (c == null || r == null) {
                all.add(new int[] {path / 1000, path % 1000, -1, c != null ? 1 : 2});
            }
            for (int leaf = 0; leaf < 4 && c != null; leaf++) {
                if (!Objects.equals(c.get(leaf), r == null ? null : r.get(leaf))) {
                    all.add(new int[] {path / 1000, path % 1000, leaf, 3});
                }
            }
        }
        return all;
    }

    int save() {
        state(off || !ready);
        int pages = running.size() + 1;
        for (int page = 1; page <= pages; page++) {
            failsBehind -= failsBehind > 0 ? 1 : 0;
            if (failsBehind == 0) {
                off = true;
                failsBehind = -1;
                if (page < pages) {
                    return -1;
                }
            }
        }
        saved = running.copy();
        return pages;
    }

    boolean cut(int n) {
        argument(n < -1 || n > 1000);
        if (!off) {
            off = n == 0;
            failsBehind = n == 0 ? -1 : n;
        }
        return off;
    }

    boolean reboot() {
        if (!off) {
            return false;
        }
        off = false;
        change(saved);
        for (int s = 0; s < 3; s++) {
            candidates[s] = null;
            bases[s] = null;
        }
        owner = -1;
        ticks = 0;
        return true;
    }

    int figure(int what) {
        if (what >= 5 && what <= 8) {
            return told[what - 5];
        }
        if (what >= 10) {
            return noList(what - 10) ? -1 : running.count(what - 10);
        }
        int[] figures = {changes, older.size(), ticks, owner, off ? 1 : 0};
        return what >= 0 && what <= 4 ? figures[what] : -1;
    }
}
