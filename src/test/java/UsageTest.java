import java.io.IOException;
import java.nio.file.Files;
import java.nio.file.Path;
import java.util.HashSet;
import java.util.List;
import java.util.Set;

/** The calls that README.md shows, and what it says that they answer. */
public final class UsageTest {
    public static void main(String[] args) throws IOException {
        calls();
        sameAsWritten();
        Expect.end();
    }

    private static void calls() {
        Expect.about("README.md");
        SettingsDesk desk = new SettingsDesk();
        int ports = desk.list();
        int speed = desk.leaf(ports, 0, 1, 100, 0);
        int label = desk.leaf(ports, 0, 0, 999, 3);
        int uplink = desk.leaf(0, 1, ports, 0, 0);
        desk.standard(ports, speed, 10);
        desk.rule(ports, speed, 1, label, true);
        boolean good = desk.ready();
        Expect.yes("the empty set has no fault", good);

        desk.begin(0);
        desk.entry(0, ports, 7, true);
        desk.set(0, ports, 7, label, 70);
        desk.set(0, 0, 0, uplink, 7);
        int first = desk.commit(0, 3);
        Expect.same("the first commit", first, SettingsDesk.DONE);
        Expect.same("runs for three ticks", desk.figure(2), 3);
        Expect.same("other commits until then", desk.commit(0, 0), SettingsDesk.LOCKED);
        desk.confirm();
        Expect.same("confirmed", desk.figure(2), 0);
        int now = desk.get(3, ports, 7, speed);
        Expect.same("the standard", now, 10);

        desk.begin(1);
        desk.set(0, ports, 7, speed, 40);
        desk.set(1, ports, 7, speed, 50);
        desk.commit(0, 0);
        int second = desk.commit(1, 0);
        Expect.same("the second commit", second, SettingsDesk.CLASH);
        Expect.same("the fault of a clash", desk.figure(5), 0);
        Expect.same("its list", desk.figure(6), ports);
        Expect.same("its key", desk.figure(7), 7);
        Expect.same("its leaf", desk.figure(8), speed);
        int ours = desk.diff(1, 0, 2);
        Expect.same("the leaf of the difference", ours, speed);

        desk.rollback(1, 1);
        int third = desk.commit(1, 0);
        Expect.same("the third commit", third, SettingsDesk.DONE);
        Expect.same("the speed is not set any more", desk.get(3, ports, 7, speed), 10);

        afterwards(desk, ports, label);
    }

    private static void afterwards(SettingsDesk desk, int ports, int label) {
        int pages = desk.save();
        Expect.same("pages", pages, 3);
        desk.set(0, ports, 7, label, 71);
        desk.commit(0, 0);
        Expect.same("the newer label", desk.get(3, ports, 7, label), 71);
        desk.cut(2);
        int written = desk.save();
        Expect.same("the third page was not written", written, SettingsDesk.NONE);
        Expect.fails("without power", Expect.STATE, () -> desk.begin(0));
        boolean wasOff = desk.reboot();
        Expect.yes("the power comes back", wasOff);
        int back = desk.get(3, ports, 7, label);
        Expect.same("the older label", back, 70);
        Expect.same("of the saved set, too", desk.get(4, ports, 7, label), 70);
    }

    /** Each line of README.md's Java is a line of this test, so that neither goes its own way. */
    private static void sameAsWritten() throws IOException {
        Set<String> here = new HashSet<>();
        for (String line : Files.readAllLines(Path.of("src/test/java/UsageTest.java"))) {
            here.add(line.strip());
        }
        List<String> lines = Files.readAllLines(Path.of("README.md"));
        boolean inside = false;
        int shown = 0;
        for (String line : lines) {
            if (line.startsWith("```")) {
                inside = line.equals("```java");
            } else if (inside) {
                String call = line.replaceAll("//.*", "").strip();
                Expect.yes("the test has the line " + call, here.contains(call));
                shown++;
            }
        }
        Expect.yes("README.md shows calls", shown > 20);
    }
}
