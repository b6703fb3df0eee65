/** Promises 25 and 26: the mean age, and the hash of the whole state. */
public final class StateTest {
    private static final int NONE = ArchiveMirrors.NONE;

    public static void main(String[] args) {
        meanAge();
        meanAgeOfThirds();
        meanAgeOfSix();
        digestOfNew();
        digestOfInput();
        digestOfAll();
        digestOfLimits();
        digestOfEmptySet();
        Check.end();
    }

    private static void meanAge() {
        ArchiveMirrors x = Check.archiveOf(1, 10);
        Check.equal("without mirrors", x.meanAge(), 0.0);
        x.addMirror(1, 60, 1, NONE, 10, false);
        x.addMirror(1, 60, 4, NONE, 10, false);
        x.addMirror(1, 60, 50, NONE, 10, false);
        Check.equal("without indexes", x.meanAge(), 0.0);
        x.release();
        x.pass(1);
        Check.equal("one index", x.meanAge(), 1.0);
        x.pass(2);
        x.release();
        Check.equal("a release does not count", x.meanAge(), 3.0);
        x.pass(1);
        Check.equal("4 and 1", x.meanAge(), 2.5);
        x.tamper(1);
        Check.equal("4 alone", x.meanAge(), 4.0);
        x.tamper(0);
        Check.equal("none", x.meanAge(), 0.0);
        x.pass(200);
        Check.equal("201, 201 and 201", x.meanAge(), 201.0);
        x.setValidity(1);
        Check.equal("stale ones too", x.meanAge(), 201.0);
    }

    private static void meanAgeOfThirds() {
        ArchiveMirrors x = Check.archiveOf(1, 10);
        x.addMirror(1, 60, 1, NONE, 10, false);
        x.addMirror(1, 60, 1, NONE, 10, false);
        x.addMirror(1, 60, 2, NONE, 10, false);
        x.release();
        x.pass(1);
        x.release();
        x.pass(1);
        Check.equal("2, 2 and 1", x.meanAge(), 5.0 / 3);
    }

    private static void meanAgeOfSix() {
        ArchiveMirrors x = Check.archiveOf(1, 10);
        for (int i = 0; i < 6; i++) {
            x.addMirror(1, 1, 0, NONE, 10, false);
        }
        x.release();
        x.pass(5);
        Check.equal("six mirrors", x.meanAge(), 5.0);
        x.begin(1);
        Check.equal("no mirrors after begin", x.meanAge(), 0.0);
    }

    /** The client can install the empty set, but not a package that is too large for its mirror. */
    private static void digestOfEmptySet() {
        ArchiveMirrors x = Check.archiveOf(1, 20, 10);
        x.release();
        x.addMirror(1, 7, 1, NONE, 10, false);
        x.addClient(1);
        x.pass(1);
        Check.equal("until for a package", x.until(0, 1), NONE);
        Check.equal("until for the empty set", x.until(0, 0), 0);
        digestIsDue("with a file too large to copy", x, "");
    }

    private static void digestOfNew() {
        long due = 1999;
        for (int value : new int[] {1, 0, 0, 0, 0, 0, 60, 0, 0, 0, 0}) {
            due = 31 * due + value;
        }
        Check.equal("digest of a new object", new ArchiveMirrors().digest(), due);
    }

    private static void digestOfInput() {
        ArchiveMirrors x = new ArchiveMirrors();
        Check.type(x, "~ 0");
        long due = 1999;
        for (int value : new int[] {1, 0, 0, 0, 0, 0, 60, 0, 0, 0, 3, 126, 32, 48}) {
            due = 31 * due + value;
        }
        Check.equal("digest of a text", x.digest(), due);
        x.clearInput();
        Check.equal("digest of no text", x.digest(), new ArchiveMirrors().digest());
    }

    private static void digestOfAll() {
        ArchiveMirrors x = new ArchiveMirrors();
        x.begin(3);
        digestIsDue("begun", x, "");
        Check.type(x, "0:25;1:9+a;2:60+ab");
        x.load();
        digestIsDue("loaded", x, "");
        x.publish(1);
        x.release();
        digestIsDue("released", x, "");
        x.addMirror(7, 1, 0, NONE, 60, true);
        x.addMirror(6, 5, 3, 0, 30, false);
        digestIsDue("with mirrors", x, "");
        x.addClient(1);
        x.addClient(3);
        digestIsDue("with clients", x, "");
        for (int i = 0; i < 5; i++) {
            x.pass(1);
            digestIsDue("passed", x, "");
        }
        x.install(1, 1);
        digestIsDue("installed", x, "");
        x.addPackage(0, 5, 0);
        digestIsDue("a package that is in no index", x, "");
        x.publish(0);
        x.release();
        x.pass(1);
        x.tamper(0);
        x.removeFile(0, 1, 2);
        digestIsDue("tampered with", x, "");
        x.setValidity(4);
        Check.type(x, "0:1;");
        digestIsDue("stale", x, "0:1;");
    }

    private static void digestOfLimits() {
        ArchiveMirrors x = new ArchiveMirrors();
        x.begin(5);
        for (int i = 0; i < 12; i++) {
            x.addPackage(i % 5, 99 - i, (1 << i) - 1);
        }
        for (int i = 0; i < 20; i++) {
            x.publish(i % 12);
            x.release();
        }
        for (int i = 0; i < 6; i++) {
            x.addMirror(31, 7 + i, i, i - 1, 200, i % 2 == 0);
        }
        for (int i = 0; i < 4; i++) {
            x.addClient(63 >> i);
        }
        x.pass(40);
        String text = "0:1;1:99+abc;;2:3; any characters, up to the length of sixty";
        Check.type(x, text);
        x.install(0, 4095);
        digestIsDue("at all limits", x, text);
    }

    private static void digestIsDue(String where, ArchiveMirrors x, String text) {
        Check.equal("digest, " + where, x.digest(), Digests.of(x, text));
    }
}
