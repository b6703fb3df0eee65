/** Promises 11 to 16: mirrors and what they pull. */
public final class MirrorTest {
    private static final int NONE = ArchiveMirrors.NONE;
    private static final int[] ODD = {Integer.MIN_VALUE, -2, -1, Integer.MAX_VALUE};

    public static void main(String[] args) {
        addMirror();
        addMirrorRefused();
        tamper();
        tamperedUpstream();
        removeFile();
        passRefused();
        timesOfPulls();
        capacity();
        sections();
        carefulMirror();
        carelessMirror();
        oldFilesAreRemoved();
        firstIndexRemovesToo();
        sameIndexRemovesNothing();
        chainInOneMinute();
        upstreamWithoutFile();
        mirrorProperties();
        mirrorRefused();
        files();
        Check.end();
    }

    private static void mirrorIs(ArchiveMirrors x, int mirror, int... due) {
        for (int what = 0; what < due.length; what++) {
            Check.equal("mirror(" + mirror + ", " + what + ")", x.mirror(mirror, what), due[what]);
        }
    }

    private static void addMirror() {
        ArchiveMirrors x = Check.archiveOf(5, 10);
        Check.equal("first mirror", x.addMirror(31, 60, 59, NONE, 200, true), 0);
        Check.equal("second mirror", x.addMirror(1, 1, 0, 0, 1, false), 1);
        mirrorIs(x, 0, 31, 60, 59, NONE, 0, 0, 0, 0, 59, 0, 0);
        mirrorIs(x, 1, 1, 1, 0, 0, 0, 0, 0, 0, 1, 0, 0);
        Check.equal("third mirror", x.addMirror(16, 2, 1, 1, 5, false), 2);
        for (int i = 3; i < 6; i++) {
            Check.equal("mirror " + i, x.addMirror(1, 1, 0, i - 1, 5, true), i);
        }
        Check.badState(x, "a 7th mirror", () -> x.addMirror(1, 1, 0, 5, 5, true));
        Check.badArgument(x, "a 7th mirror without sections", () -> x.addMirror(0, 1, 0, 5, 5, true));
        Check.outOfBounds(x, "a 7th mirror below a 7th", () -> x.addMirror(0, 1, 0, 6, 5, true));
    }

    private static void addMirrorRefused() {
        ArchiveMirrors x = Check.archiveOf(3, 10);
        x.addMirror(1, 1, 0, NONE, 100, false);
        for (int upstream : new int[] {-2, 1, Integer.MIN_VALUE, Integer.MAX_VALUE}) {
            Check.outOfBounds(x, "upstream " + upstream, () -> x.addMirror(1, 1, 0, upstream, 1, true));
            Check.outOfBounds(x, "upstream " + upstream + ", all wrong", () -> x.addMirror(0, 0, -1, upstream, 0, true));
        }
        for (int sections : new int[] {0, 8, 9, -1, Integer.MIN_VALUE, 1 << 30}) {
            Check.badArgument(x, "sections " + sections, () -> x.addMirror(sections, 1, 0, 0, 1, true));
        }
        for (int interval : new int[] {0, 61, -1, Integer.MIN_VALUE, Integer.MAX_VALUE}) {
            Check.badArgument(x, "interval " + interval, () -> x.addMirror(1, interval, 0, 0, 1, true));
        }
        for (int offset : new int[] {-1, 7, 8, Integer.MIN_VALUE, Integer.MAX_VALUE}) {
            Check.badArgument(x, "offset " + offset, () -> x.addMirror(1, 7, offset, 0, 1, true));
        }
        for (int capacity : new int[] {0, 201, -1, Integer.MIN_VALUE, Integer.MAX_VALUE}) {
            Check.badArgument(x, "capacity " + capacity, () -> x.addMirror(1, 1, 0, 0, capacity, true));
        }
        Check.equal("mirrors", x.count(3), 1);
    }

    private static void tamper() {
        ArchiveMirrors x = Check.archiveOf(1, 10);
        x.addMirror(1, 2, 0, NONE, 100, false);
        x.addMirror(1, 4, 0, NONE, 100, true);
        Check.badState(x, "tamper without an index", () -> x.tamper(0));
        x.release();
        x.release();
        x.pass(4);
        Check.equal("tamper", x.tamper(0), 2);
        Check.equal("tamper again", x.tamper(0), 2);
        x.tamper(1);
        Check.equal("tampered with", x.mirror(0, 5), 1);
        Check.equal("its index stays", x.mirror(0, 4), 2);
        x.pass(1);
        Check.equal("tampered with until it pulls", x.mirror(0, 5), 1);
        x.pass(1);
        Check.equal("a pull takes the right index", x.mirror(0, 5), 0);
        Check.equal("the other has not pulled", x.mirror(1, 5), 1);
        x.pass(2);
        Check.equal("a careful mirror takes it too", x.mirror(1, 5), 0);
        for (int mirror : ODD) {
            Check.outOfBounds(x, "tamper(" + mirror + ")", () -> x.tamper(mirror));
        }
        Check.outOfBounds(x, "tamper(2)", () -> x.tamper(2));
    }

    private static void tamperedUpstream() {
        ArchiveMirrors x = Check.archiveOf(1, 10);
        x.addMirror(1, 60, 1, NONE, 100, false);
        x.addMirror(1, 1, 0, 0, 100, false);
        x.addMirror(1, 60, 2, 0, 100, true);
        x.pass(60);
        x.release();
        Check.equal("both copy", x.pass(1), 2);
        x.tamper(0);
        x.removeFile(1, 0, 1);
        Check.equal("nothing is pulled from a tampered index", x.pass(1), 0);
        Check.equal("no index is taken", x.mirror(2, 4), 0);
        x.tamper(1);
        x.pass(1);
        Check.equal("the tampered index stays", x.mirror(1, 5), 1);
    }

    private static void removeFile() {
        ArchiveMirrors x = Check.archiveOf(1, 10, 20);
        x.release();
        x.addMirror(1, 60, 1, NONE, 100, false);
        x.pass(1);
        Check.equal("removeFile(0, 0, 1)", x.removeFile(0, 0, 1), 1);
        Check.equal("the other file stays", x.files(0, 1), 2);
        for (int version : new int[] {1, 0, 2, 30, 31, 32, 33, -31, -1, Integer.MIN_VALUE, Integer.MAX_VALUE}) {
            Check.badState(x, "removeFile(0, 0, " + version + ")", () -> x.removeFile(0, 0, version));
        }
        for (int version : new int[] {33, -31, 65, 0}) {
            Check.badState(x, "removeFile(0, 1, " + version + ")", () -> x.removeFile(0, 1, version));
        }
        for (int odd : ODD) {
            Check.outOfBounds(x, "removeFile(" + odd + ", 0, 1)", () -> x.removeFile(odd, 0, 1));
            Check.outOfBounds(x, "removeFile(0, " + odd + ", 1)", () -> x.removeFile(0, odd, 1));
        }
        Check.outOfBounds(x, "removeFile(1, 0, 1)", () -> x.removeFile(1, 0, 1));
        Check.outOfBounds(x, "removeFile(0, 2, 1)", () -> x.removeFile(0, 2, 1));
        Check.equal("removeFile(0, 1, 1)", x.removeFile(0, 1, 1), 0);
        Check.equal("it copies them again", x.pass(60), 2);
    }

    private static void passRefused() {
        ArchiveMirrors x = Check.archiveOf(1, 10);
        for (int minutes : new int[] {0, 201, -1, Integer.MIN_VALUE, Integer.MAX_VALUE}) {
            Check.badArgument(x, "pass(" + minutes + ")", () -> x.pass(minutes));
        }
        Check.equal("pass(200)", x.pass(200), 0);
        Check.equal("pass(1)", x.pass(1), 0);
        Check.equal("the time", x.count(5), 201);
    }

    private static void timesOfPulls() {
        ArchiveMirrors x = Check.archiveOf(1, 10);
        x.release();
        x.addMirror(1, 7, 3, NONE, 100, false);
        int[] due = {3, 2, 1, 7, 6, 5, 4, 3, 2, 1, 7};
        for (int time = 0; time < due.length; time++) {
            Check.equal("minutes to the next pull at " + time, x.mirror(0, 8), due[time]);
            Check.equal("index at " + time, x.mirror(0, 4), time < 3 ? 0 : 1);
            x.pass(1);
        }
        x.addMirror(1, 1, 0, NONE, 100, false);
        Check.equal("interval 1", x.mirror(1, 8), 1);
        x.addMirror(1, 11, 0, NONE, 100, false);
        Check.equal("a pull at this time does not count", x.mirror(2, 8), 11);
    }

    private static void capacity() {
        ArchiveMirrors x = Check.archiveOf(1, 30, 40, 30, 20);
        x.release();
        x.addMirror(1, 1, 0, NONE, 60, false);
        Check.equal("first pull", x.pass(1), 2);
        Check.equal("a is copied", x.files(0, 0), 2);
        Check.equal("b is left out", x.files(0, 1), 0);
        Check.equal("c fills the capacity", x.files(0, 2), 2);
        Check.equal("d has no room", x.files(0, 3), 0);
        Check.equal("second pull", x.pass(1), 2);
        Check.equal("all is there", x.mirror(0, 10), 1);
        Check.equal("third pull", x.pass(1), 0);
        x.addMirror(1, 1, 0, NONE, 39, false);
        Check.equal("40 is never copied by 39", x.pass(10), 3);
        Check.equal("one is missing", x.mirror(1, 6), 1);
    }

    private static void sections() {
        ArchiveMirrors x = new ArchiveMirrors();
        x.begin(3);
        x.addPackage(0, 10, 0);
        x.addPackage(1, 20, 0);
        x.addPackage(2, 30, 0);
        x.addPackage(1, 40, 0);
        x.release();
        x.addMirror(2, 1, 0, NONE, 60, true);
        x.addMirror(7, 2, 1, 0, 200, false);
        x.addMirror(5, 1, 0, NONE, 200, true);
        Check.equal("pass", x.pass(1), 6);
        mirrorIs(x, 0, 2, 1, 0, NONE, 1, 0, 0, 2, 1, 0, 1);
        mirrorIs(x, 1, 7, 2, 1, 0, 1, 0, 2, 2, 2, 0, 0);
        mirrorIs(x, 2, 5, 1, 0, NONE, 1, 0, 0, 2, 1, 0, 1);
    }

    private static void carefulMirror() {
        ArchiveMirrors x = Check.archiveOf(1, 30, 30, 30);
        x.addMirror(1, 1, 0, NONE, 30, true);
        x.pass(1);
        Check.equal("no index is offered", x.mirror(0, 4), 0);
        x.release();
        x.pass(2);
        Check.equal("without all files, no index", x.mirror(0, 4), 0);
        Check.equal("but files", x.mirror(0, 7), 2);
        Check.equal("no files are missing without an index", x.mirror(0, 6), 0);
        x.pass(1);
        Check.equal("with all files, the index", x.mirror(0, 4), 1);
        x.publish(0);
        x.publish(1);
        x.release();
        x.pass(1);
        Check.equal("the old index stays", x.mirror(0, 4), 1);
        Check.equal("with the old and the new file", x.files(0, 0), 6);
        Check.equal("it is complete still", x.mirror(0, 10), 1);
        Check.equal("one index is later", x.mirror(0, 9), 1);
        x.pass(1);
        Check.equal("the new index", x.mirror(0, 4), 2);
        Check.equal("without the old file", x.files(0, 0), 4);
    }

    private static void carelessMirror() {
        ArchiveMirrors x = Check.archiveOf(1, 30, 30);
        x.release();
        x.addMirror(1, 1, 0, NONE, 30, false);
        x.pass(1);
        Check.equal("the index comes first", x.mirror(0, 4), 1);
        Check.equal("a file is missing", x.mirror(0, 6), 1);
        Check.equal("so it is not complete", x.mirror(0, 10), 0);
        x.pass(1);
        Check.equal("now it is complete", x.mirror(0, 10), 1);
    }

    private static void oldFilesAreRemoved() {
        ArchiveMirrors x = Check.archiveOf(1, 30, 30, 30);
        x.release();
        x.addMirror(1, 1, 0, NONE, 90, false);
        x.addMirror(1, 1, 0, 0, 20, false);
        x.pass(1);
        x.publish(1);
        x.release();
        Check.equal("one file is new", x.pass(1), 1);
        Check.equal("a stays", x.files(0, 0), 2);
        Check.equal("the old b is removed", x.files(0, 1), 4);
        Check.equal("three files", x.mirror(0, 7), 3);
        Check.equal("the other mirror took the index", x.mirror(1, 4), 2);
        Check.equal("and has no files", x.mirror(1, 7), 0);
    }

    private static void firstIndexRemovesToo() {
        ArchiveMirrors x = Check.archiveOf(1, 30, 60);
        x.release();
        x.addMirror(1, 1, 0, NONE, 60, true);
        x.pass(1);
        Check.equal("a is there, without an index", x.files(0, 0), 2);
        x.publish(0);
        x.release();
        x.pass(1);
        Check.equal("both versions of a, without an index", x.files(0, 0), 6);
        Check.equal("without an index still", x.mirror(0, 4), 0);
        x.pass(1);
        Check.equal("the first index that it takes", x.mirror(0, 4), 2);
        Check.equal("the old version is removed", x.files(0, 0), 4);
    }

    private static void sameIndexRemovesNothing() {
        ArchiveMirrors x = Check.archiveOf(1, 30, 60);
        x.release();
        x.addMirror(1, 1, 0, NONE, 90, true);
        x.addMirror(1, 1, 0, 0, 90, false);
        x.pass(1);
        x.publish(0);
        x.tamper(0);
        x.tamper(1);
        Check.equal("a version without a release is not copied", x.pass(1), 0);
        for (int mirror = 0; mirror < 2; mirror++) {
            Check.equal("the same index", x.mirror(mirror, 4), 1);
            Check.equal("with the right signature", x.mirror(mirror, 5), 0);
            Check.equal("with its files", x.mirror(mirror, 7), 2);
        }
    }

    private static void chainInOneMinute() {
        ArchiveMirrors x = Check.archiveOf(1, 30);
        x.release();
        x.addMirror(1, 1, 0, NONE, 30, true);
        x.addMirror(1, 1, 0, 0, 30, true);
        x.addMirror(1, 1, 0, 1, 30, false);
        Check.equal("each pulls behind its upstream in one minute", x.pass(1), 3);
        Check.equal("the last has the index", x.mirror(2, 4), 1);
        Check.equal("the last is complete", x.mirror(2, 10), 1);
    }

    private static void upstreamWithoutFile() {
        ArchiveMirrors x = Check.archiveOf(1, 30, 20, 20);
        x.release();
        x.addMirror(1, 60, 1, NONE, 200, false);
        x.addMirror(1, 1, 0, 0, 40, true);
        x.addMirror(1, 1, 0, 0, 40, false);
        x.pass(58);
        x.removeFile(0, 0, 1);
        x.removeFile(1, 0, 1);
        x.removeFile(2, 0, 1);
        x.removeFile(1, 1, 1);
        Check.equal("what the upstream lacks takes no capacity", x.pass(1), 1);
        Check.equal("b is copied", x.files(1, 1), 2);
        Check.equal("a is not", x.files(1, 0), 0);
        Check.equal("nor is it by the other", x.files(2, 0), 0);
        Check.equal("each copies a when its upstream has it", x.pass(2), 3);
    }

    private static void mirrorProperties() {
        ArchiveMirrors x = Check.archiveOf(2, 30, 20);
        x.addPackage(1, 10, 0);
        x.addMirror(3, 10, 2, NONE, 50, false);
        x.addMirror(1, 20, 12, 0, 200, true);
        mirrorIs(x, 0, 3, 10, 2, NONE, 0, 0, 0, 0, 2, 0, 0);
        x.release();
        x.release();
        mirrorIs(x, 0, 3, 10, 2, NONE, 0, 0, 0, 0, 2, 2, 0);
        x.pass(2);
        mirrorIs(x, 0, 3, 10, 2, NONE, 2, 0, 1, 2, 10, 0, 0);
        x.release();
        mirrorIs(x, 0, 3, 10, 2, NONE, 2, 0, 1, 2, 10, 1, 0);
        x.pass(10);
        mirrorIs(x, 0, 3, 10, 2, NONE, 3, 0, 0, 3, 10, 0, 1);
        mirrorIs(x, 1, 1, 20, 12, 0, 3, 0, 0, 2, 20, 0, 1);
        x.tamper(1);
        x.removeFile(1, 0, 1);
        mirrorIs(x, 1, 1, 20, 12, 0, 3, 1, 1, 1, 20, 0, 0);
        x.addPackage(0, 10, 0);
        Check.equal("a package that is not in its index is not missing", x.mirror(0, 6), 0);
    }

    private static void mirrorRefused() {
        ArchiveMirrors x = Check.archiveOf(2, 30, 20);
        Check.outOfBounds(x, "mirror(0, 0) without mirrors", () -> x.mirror(0, 0));
        x.addMirror(1, 1, 0, NONE, 50, false);
        for (int mirror : ODD) {
            Check.outOfBounds(x, "mirror(" + mirror + ", 0)", () -> x.mirror(mirror, 0));
        }
        Check.outOfBounds(x, "mirror(1, 11)", () -> x.mirror(1, 11));
        for (int what : new int[] {-1, 11, Integer.MIN_VALUE, Integer.MAX_VALUE}) {
            Check.badArgument(x, "mirror(0, " + what + ")", () -> x.mirror(0, what));
        }
    }

    private static void files() {
        ArchiveMirrors x = Check.archiveOf(1, 90, 90, 90);
        for (int version = 2; version <= 29; version++) {
            x.publish(0);
        }
        x.release();
        x.addMirror(1, 1, 0, NONE, 90, true);
        x.pass(1);
        Check.equal("version 29", x.files(0, 0), 1 << 29);
        x.publish(0);
        x.release();
        x.pass(1);
        Check.equal("versions 29 and 30", x.files(0, 0), 3 << 29);
        Check.equal("no version of c", x.files(0, 2), 0);
        Check.equal("removeFile of version 30", x.removeFile(0, 0, 30), 1);
        Check.equal("version 29 stays", x.files(0, 0), 1 << 29);
        for (int odd : ODD) {
            Check.outOfBounds(x, "files(" + odd + ", 0)", () -> x.files(odd, 0));
            Check.outOfBounds(x, "files(0, " + odd + ")", () -> x.files(0, odd));
        }
        Check.outOfBounds(x, "files(1, 0)", () -> x.files(1, 0));
        Check.outOfBounds(x, "files(0, 3)", () -> x.files(0, 3));
    }
}
