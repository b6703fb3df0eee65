import java.util.List;
import java.util.function.Consumer;
import java.util.function.Supplier;

/** Promises 25 and 26: the mean age, and the hash of the whole state. */
public final class StateTest {
    private static final int NONE = ArchiveMirrors.NONE;

    public static void main(String[] args) {
        meanAge();
        meanAgeOfThirds();
        meanAgeOfSix();
        digestOfNew();
        digestOfInput();
        digestOfAll();
        digestOfLimits();
        digestOfEmptySet();
        Check.end();
    }

    private static void meanAge() {
        ArchiveMirrors x = Check.archiveOf(1, 10);
        Check.equal("without mirrors", x.meanAge(), 0.0);
        x.addMirror(1, 60, 1, NONE, 10, false);
        x.addMirror(1, 60, 4, NONE, 10, false);
        x.addMirror(1, 60, 50, NONE, 10, false);
        Check.equal("without indexes", x.meanAge(), 0.0);
        x.release();
        x.pass(1);
        Check.equal("one index", x.meanAge(), 1.0);
        x.pass(2);
        x.release();
        Check.equal("a release does not count", x.meanAge(), 3.0);
        x.pass(1);
        Check.equal("4 and 1", x.meanAge(), 2.5);
        x.tamper(1);
        Check.equal("4 alone", x.meanAge(), 4.0);
        x.tamper(0);
        Check.equal("none", x.meanAge(), 0.0);
        x.pass(200);
        Check.equal("201, 201 and 201", x.meanAge(), 201.0);
        x.setValidity(1);
        Check.equal("stale ones too", x.meanAge(), 201.0);
    }

    private static void meanAgeOfThirds() {
        ArchiveMirrors x = Check.archiveOf(1, 10);
        x.addMirror(1, 60, 1, NONE, 10, false);
        x.addMirror(1, 60, 1, NONE, 10, false);
        x.addMirror(1, 60, 2, NONE, 10, false);
        x.release();
        x.pass(1);
        x.release();
        x.pass(1);
        Check.equal("2, 2 and 1", x.meanAge(), 5.0 / 3);
    }

    private static void meanAgeOfSix() {
        ArchiveMirrors x = Check.archiveOf(1, 10);
        for (int i = 0; i < 6; i++) {
            x.addMirror(1, 1, 0, NONE, 10, false);
        }
        x.release();
        x.pass(5);
        Check.equal("six mirrors", x.meanAge(), 5.0);
        x.begin(1);
        Check.equal("no mirrors after begin", x.meanAge(), 0.0);
    }

    /** The client can install the empty set, but not a package that is too large for its mirror. */
    private static void digestOfEmptySet() {
        ArchiveMirrors x = Check.archiveOf(1, 20, 10);
        x.release();
        x.addMirror(1, 7, 1, NONE, 10, false);
        x.addClient(1);
        x.pass(1);
        Check.equal("until for a package", x.until(0, 1), NONE);
        Check.equal("until for the empty set", x.until(0, 0), 0);
        digestIsDue("with a file too large to copy", () -> x, "");
    }

    private static void digestOfNew() {
        long due = 1999;
        for (int value : new int[] {1, 0, 0, 0, 0, 0, 60, 0, 0, 0, 0}) {
            due = 31 * due + value;
        }
        Check.equal("digest of a new object", new ArchiveMirrors().digest(), due);
    }

    private static void digestOfInput() {
        ArchiveMirrors x = new ArchiveMirrors();
        Check.type(x, "~ 0");
        long due = 1999;
        for (int value : new int[] {1, 0, 0, 0, 0, 0, 60, 0, 0, 0, 3, 126, 32, 48}) {
            due = 31 * due + value;
        }
        Check.equal("digest of a text", x.digest(), due);
        x.clearInput();
        Check.equal("digest of no text", x.digest(), new ArchiveMirrors().digest());
    }

    /** What is done to an object, a step at a time; the digest is compared behind each. */
    private static List<Consumer<ArchiveMirrors>> steps() {
        return List.of(
                x -> x.begin(3),
                x -> Check.type(x, "0:25;1:9+a;2:60+ab"),
                x -> x.load(),
                x -> x.publish(1),
                x -> x.release(),
                x -> x.addMirror(7, 1, 0, NONE, 60, true),
                x -> x.addMirror(6, 5, 3, 0, 30, false),
                x -> x.addClient(1),
                x -> x.addClient(3),
                x -> x.pass(1),
                x -> x.pass(1),
                x -> x.pass(1),
                x -> x.pass(1),
                x -> x.pass(1),
                x -> x.install(1, 1),
                x -> x.addPackage(0, 5, 0),
                x -> x.publish(0),
                x -> x.release(),
                x -> x.pass(1),
                x -> x.tamper(0),
                x -> x.removeFile(0, 1, 2),
                x -> x.setValidity(4),
                x -> Check.type(x, "0:1;"));
    }

    private static ArchiveMirrors after(int count) {
        ArchiveMirrors x = new ArchiveMirrors();
        for (Consumer<ArchiveMirrors> step : steps().subList(0, count)) {
            step.accept(x);
        }
        return x;
    }

    private static void digestOfAll() {
        int all = steps().size();
        for (int i = 0; i <= all; i++) {
            int count = i;
            String text = i == 2 ? "0:25;1:9+a;2:60+ab" : i == all ? "0:1;" : "";
            digestIsDue("behind step " + i, () -> after(count), text);
        }
    }

    private static ArchiveMirrors atAllLimits() {
        ArchiveMirrors x = new ArchiveMirrors();
        x.begin(5);
        for (int i = 0; i < 12; i++) {
            x.addPackage(i % 5, 99 - i, (1 << i) - 1);
        }
        for (int i = 0; i < 20; i++) {
            x.publish(i % 12);
            x.release();
        }
        for (int i = 0; i < 6; i++) {
            x.addMirror(31, 7 + i, i, i - 1, 200, i % 2 == 0);
        }
        for (int i = 0; i < 4; i++) {
            x.addClient(63 >> i);
        }
        x.pass(40);
        Check.type(x, States.SIXTY);
        x.install(0, 4095);
        return x;
    }

    private static void digestOfLimits() {
        digestIsDue("at all limits", StateTest::atAllLimits, States.SIXTY);
    }

    private static void digestIsDue(String where, Supplier<ArchiveMirrors> make, String text) {
        Check.equal("digest, " + where, make.get().digest(), Digests.of(make, text));
    }
}
