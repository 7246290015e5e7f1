/** Promises 1 to 6: a new object, list, leaf, standard, rule, ready. */
public final class SchemaTest {
    private static final int REQUIRED = 1;
    private static final int UNIQUE = 2;

    public static void main(String[] args) {
        newObject();
        lists();
        leaves();
        wrongLeaves();
        flags();
        standards();
        rules();
        ready();
        readyTellsNoCommit();
        notReady();
        Expect.end();
    }

    private static void newObject() {
        Expect.about("1 a new object");
        SettingsDesk x = new SettingsDesk();
        for (int what = 0; what <= 8; what++) {
            Expect.same("figure(" + what + ")", x.figure(what), what == 3 ? -1 : 0);
        }
        Expect.same("the root's entries", x.figure(10), 1);
        Expect.same("no other list", x.figure(11), -1);
        Expect.fails("a leaf of the root", Expect.INDEX, () -> x.standard(0, 0, 0));
        Expect.fails("begin before ready", Expect.STATE, () -> x.begin(0));
        Expect.same("the first rule's number", withNumber(x).rule(0, 0, 0, 0, true), 0);
    }

    private static SettingsDesk withNumber(SettingsDesk x) {
        x.leaf(0, 0, 0, 9, 0);
        return x;
    }

    private static void lists() {
        Expect.about("2 list");
        SettingsDesk x = new SettingsDesk();
        for (int number = 1; number <= 3; number++) {
            Expect.same("list()", x.list(), number);
            Expect.same("its entries", x.figure(10 + number), 0);
        }
        Expect.fails("a fifth list", Expect.STATE, x::list);
        Expect.same("no fifth list", x.figure(14), -1);
        SettingsDesk ready = new SettingsDesk();
        ready.ready();
        Expect.fails("list() when ready", Expect.STATE, ready::list);
        SettingsDesk off = new SettingsDesk();
        off.cut(0);
        Expect.fails("list() without power", Expect.STATE, off::list);
        off.reboot();
        Expect.same("list() with power again", off.list(), 1);
    }

    private static void leaves() {
        Expect.about("3 leaf");
        SettingsDesk x = new SettingsDesk();
        x.list();
        for (int number = 0; number < 4; number++) {
            Expect.same("leaf of the root", x.leaf(0, 0, -3, -3, 3), number);
            Expect.same("leaf of list 1", x.leaf(1, 1, 1, -9, number), number);
        }
        Expect.fails("a fifth leaf", Expect.STATE, () -> x.leaf(0, 0, 0, 1, 0));
        Expect.fails("a fifth leaf that is wrong too", Expect.STATE, () -> x.leaf(1, 7, 0, 1, 9));
        Expect.fails("no list, and wrong", Expect.INDEX, () -> x.leaf(2, 7, 0, 1, 9));
        Expect.fails("list below 0", Expect.INDEX, () -> x.leaf(-1, 0, 0, 1, 0));
        x.ready();
        Expect.fails("ready, and no list", Expect.STATE, () -> x.leaf(5, 0, 0, 1, 0));
        SettingsDesk off = new SettingsDesk();
        off.cut(0);
        Expect.fails("off, and no list", Expect.STATE, () -> off.leaf(5, 0, 0, 1, 0));
        SettingsDesk wide = new SettingsDesk();
        wide.leaf(0, 0, Integer.MIN_VALUE, Integer.MAX_VALUE, 0);
        wide.ready();
        wide.begin(0);
        wide.set(0, 0, 0, 0, Integer.MIN_VALUE);
        Expect.same("the lowest", wide.get(0, 0, 0, 0), Integer.MIN_VALUE);
        wide.set(0, 0, 0, 0, Integer.MAX_VALUE);
        Expect.same("the highest", wide.get(0, 0, 0, 0), Integer.MAX_VALUE);
    }

    private static void wrongLeaves() {
        Expect.about("3 leaf, wrong arguments");
        SettingsDesk x = new SettingsDesk();
        x.list();
        Expect.fails("kind 2", Expect.ARGUMENT, () -> x.leaf(0, 2, 0, 1, 0));
        Expect.fails("kind 2, low a list", Expect.ARGUMENT, () -> x.leaf(0, 2, 1, 1, 0));
        Expect.fails("kind -1", Expect.ARGUMENT, () -> x.leaf(0, -1, 1, 1, 0));
        Expect.fails("low above high", Expect.ARGUMENT, () -> x.leaf(0, 0, 1, 0, 0));
        Expect.fails("reference to the root", Expect.ARGUMENT, () -> x.leaf(0, 1, 0, 5, 0));
        Expect.fails("reference to no list", Expect.ARGUMENT, () -> x.leaf(0, 1, 2, 5, 0));
        Expect.fails("reference below 0", Expect.ARGUMENT, () -> x.leaf(0, 1, -1, 5, 0));
        Expect.fails("flags 4", Expect.ARGUMENT, () -> x.leaf(0, 0, 0, 1, 4));
        Expect.fails("flags -1", Expect.ARGUMENT, () -> x.leaf(0, 0, 0, 1, -1));
        Expect.fails("flags of a reference", Expect.ARGUMENT, () -> x.leaf(0, 1, 1, 0, 4));
        Expect.same("none was made", x.leaf(0, 1, 1, 0, 3), 0);
    }

    /** Which fault two entries of a list have whose only leaf has these flags. */
    private static int faultOf(int flags, boolean given) {
        SettingsDesk x = new SettingsDesk();
        x.list();
        x.leaf(1, 0, 0, 9, flags);
        x.ready();
        x.begin(0);
        for (int key = 1; key <= 2; key++) {
            x.entry(0, 1, key, true);
            if (given) {
                x.set(0, 1, key, 0, 5);
            }
        }
        return x.commit(0, 0) == SettingsDesk.DONE ? 0 : x.figure(5);
    }

    private static void flags() {
        Expect.about("3 leaf, flags");
        Expect.same("plain, not set", faultOf(0, false), 0);
        Expect.same("plain, set", faultOf(0, true), 0);
        Expect.same("required, not set", faultOf(REQUIRED, false), 1);
        Expect.same("required, set", faultOf(REQUIRED, true), 0);
        Expect.same("unique, not set", faultOf(UNIQUE, false), 0);
        Expect.same("unique, set", faultOf(UNIQUE, true), 3);
        Expect.same("both, not set", faultOf(REQUIRED + UNIQUE, false), 1);
        Expect.same("both, set", faultOf(REQUIRED + UNIQUE, true), 3);
    }

    private static void standards() {
        Expect.about("4 standard");
        SettingsDesk x = new SettingsDesk();
        x.list();
        x.leaf(1, 0, -2, 5, 0);
        x.leaf(1, 1, 1, 0, 0);
        x.standard(1, 0, -2);
        x.standard(1, 0, 5);
        Expect.fails("below the lowest", Expect.ARGUMENT, () -> x.standard(1, 0, -3));
        Expect.fails("above the highest", Expect.ARGUMENT, () -> x.standard(1, 0, 6));
        Expect.fails("of a reference", Expect.ARGUMENT, () -> x.standard(1, 1, 1));
        Expect.fails("no leaf", Expect.INDEX, () -> x.standard(1, 2, 99));
        Expect.fails("leaf -1", Expect.INDEX, () -> x.standard(1, -1, 0));
        Expect.fails("no list", Expect.INDEX, () -> x.standard(2, 0, 0));
        Expect.fails("list -1", Expect.INDEX, () -> x.standard(-1, 0, 0));
        Expect.fails("a leaf of another list", Expect.INDEX, () -> x.standard(0, 0, 0));
        x.ready();
        Expect.fails("ready, and no list", Expect.STATE, () -> x.standard(9, 0, 0));
        x.begin(0);
        x.entry(0, 1, 3, true);
        Expect.same("the latest one counts", x.get(0, 1, 3, 0), 5);
        x.set(0, 1, 3, 0, 1);
        Expect.same("a setting goes before it", x.get(0, 1, 3, 0), 1);
        x.unset(0, 1, 3, 0);
        Expect.same("and it is back", x.get(0, 1, 3, 0), 5);
        SettingsDesk off = new SettingsDesk();
        off.cut(0);
        Expect.fails("off, and no leaf", Expect.STATE, () -> off.standard(0, 0, 0));
    }

    private static void rules() {
        Expect.about("5 rule");
        SettingsDesk x = new SettingsDesk();
        x.leaf(0, 0, 0, 9, 0);
        x.leaf(0, 0, 0, 9, 0);
        x.list();
        Expect.fails("no leaf a", Expect.INDEX, () -> x.rule(0, 2, 0, 0, true));
        Expect.fails("no leaf b", Expect.INDEX, () -> x.rule(0, 0, 0, 2, true));
        Expect.fails("leaf a -1", Expect.INDEX, () -> x.rule(0, -1, 0, 0, true));
        Expect.fails("leaf b -1", Expect.INDEX, () -> x.rule(0, 0, 0, -1, true));
        Expect.fails("leaves of another list", Expect.INDEX, () -> x.rule(1, 0, 0, 1, true));
        Expect.fails("no list", Expect.INDEX, () -> x.rule(2, 0, 0, 0, true));
        Expect.fails("list -1", Expect.INDEX, () -> x.rule(-1, 0, 0, 0, true));
        Expect.same("a value that a never is", x.rule(0, 0, 77, 1, true), 0);
        Expect.same("a and b alike", x.rule(0, 1, 3, 1, true), 1);
        Expect.same("rule 2", x.rule(0, 0, 4, 1, true), 2);
        Expect.same("rule 3", x.rule(0, 0, 5, 1, false), 3);
        Expect.fails("a fifth rule", Expect.STATE, () -> x.rule(0, 0, 0, 1, true));
        Expect.fails("a fifth rule, and no list", Expect.STATE, () -> x.rule(9, 0, 0, 1, true));
        x.ready();
        Expect.fails("rule when ready", Expect.STATE, () -> x.rule(0, 0, 0, 1, true));
        rulesAtWork(x);
        SettingsDesk off = new SettingsDesk();
        off.cut(0);
        Expect.fails("off, and no list", Expect.STATE, () -> off.rule(9, 0, 0, 0, true));
    }

    private static void rulesAtWork(SettingsDesk x) {
        x.begin(0);
        x.set(0, 0, 0, 0, 4);
        Expect.same("b must be there, and is not", x.commit(0, 0), SettingsDesk.INVALID);
        Expect.same("the rule's number", x.figure(8), 2);
        x.set(0, 0, 0, 1, 3);
        Expect.same("b is there", x.commit(0, 0), SettingsDesk.DONE);
        x.set(0, 0, 0, 0, 5);
        Expect.same("b must not be there, and is", x.commit(0, 0), SettingsDesk.INVALID);
        Expect.same("the rule's number", x.figure(8), 3);
        x.unset(0, 0, 0, 1);
        Expect.same("b is not there", x.commit(0, 0), SettingsDesk.DONE);
    }

    private static void ready() {
        Expect.about("6 ready");
        SettingsDesk bare = new SettingsDesk();
        Expect.yes("nothing in the schema", bare.ready());
        Expect.fails("ready again", Expect.STATE, bare::ready);
        Expect.same("and it is ready", bare.begin(0), 1);

        SettingsDesk required = new SettingsDesk();
        required.leaf(0, 0, 0, 9, REQUIRED);
        Expect.no("the root lacks a leaf", required.ready());
        Expect.same("but it is ready", required.begin(0), 1);
        Expect.fails("and no list more", Expect.STATE, required::list);

        SettingsDesk standard = new SettingsDesk();
        standard.leaf(0, 0, 0, 9, REQUIRED);
        standard.standard(0, 0, 0);
        Expect.yes("a standard is something", standard.ready());

        SettingsDesk elsewhere = new SettingsDesk();
        elsewhere.list();
        elsewhere.leaf(1, 0, 0, 9, REQUIRED);
        Expect.yes("no entry lacks it", elsewhere.ready());

        SettingsDesk rule = new SettingsDesk();
        rule.leaf(0, 0, 0, 9, 0);
        rule.leaf(0, 0, 0, 9, 0);
        rule.standard(0, 0, 7);
        rule.rule(0, 0, 7, 1, true);
        Expect.no("a standard that breaks a rule", rule.ready());

        SettingsDesk off = new SettingsDesk();
        off.cut(0);
        Expect.fails("ready() without power", Expect.STATE, off::ready);
        off.reboot();
        Expect.yes("ready() with power again", off.ready());
    }

    private static void readyTellsNoCommit() {
        Expect.about("6 ready, 21 figure");
        SettingsDesk x = new SettingsDesk();
        x.list();
        x.leaf(0, 0, 0, 9, 0);
        x.leaf(0, 0, 0, 9, REQUIRED);
        x.ready();
        for (int what = 5; what <= 8; what++) {
            Expect.same("figure(" + what + ")", x.figure(what), 0);
        }
        Expect.same("no change", x.figure(0), 0);
    }

    private static void notReady() {
        Expect.about("6 ready, not yet");
        SettingsDesk x = new SettingsDesk();
        Expect.fails("begin", Expect.STATE, () -> x.begin(9));
        Expect.fails("entry", Expect.STATE, () -> x.entry(9, 9, 0, true));
        Expect.fails("set", Expect.STATE, () -> x.set(9, 0, 0, 0, 0));
        Expect.fails("unset", Expect.STATE, () -> x.unset(9, 0, 0, 0));
        Expect.fails("get", Expect.STATE, () -> x.get(9, 0, 0, 0));
        Expect.fails("lock", Expect.STATE, () -> x.lock(9, true));
        Expect.fails("commit", Expect.STATE, () -> x.commit(9, 0));
        Expect.fails("confirm", Expect.STATE, x::confirm);
        Expect.fails("tick", Expect.STATE, x::tick);
        Expect.fails("rollback", Expect.STATE, () -> x.rollback(9, 0));
        Expect.fails("diff", Expect.STATE, () -> x.diff(9, 0, 0));
        Expect.fails("save", Expect.STATE, x::save);
        Expect.no("cut", x.cut(5));
        Expect.no("reboot", x.reboot());
    }
}
