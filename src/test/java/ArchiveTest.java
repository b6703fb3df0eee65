/** Promises 1 to 6 and 22 to 24: the archive, its packages and its indexes. */
public final class ArchiveTest {
    private static final int[] ODD = {Integer.MIN_VALUE, -2, -1, Integer.MAX_VALUE};

    public static void main(String[] args) {
        newObject();
        beginAnew();
        addPackage();
        addPackageRefused();
        publish();
        release();
        releaseRefused();
        signature();
        setValidity();
        count();
        countFiles();
        packageAt();
        index();
        Check.end();
    }

    private static void counts(String where, ArchiveMirrors x, int... due) {
        for (int what = 0; what < due.length; what++) {
            Check.equal(where + ": count(" + what + ")", x.count(what), due[what]);
        }
    }

    private static void newObject() {
        ArchiveMirrors x = new ArchiveMirrors();
        counts("new object", x, 1, 0, 0, 0, 0, 0, 60, 0, 0, 0);
        Check.equal("new object: firstError", x.firstError(), 0);
        Check.equal("new object: clearInput", x.clearInput(), 0);
        Check.equal("new object: meanAge", x.meanAge(), 0.0);
        Check.equal("NONE", ArchiveMirrors.NONE, -1);
    }

    private static void beginAnew() {
        ArchiveMirrors x = new ArchiveMirrors();
        Check.equal("begin(5)", x.begin(5), 1);
        Check.equal("begin(1)", x.begin(1), 5);
        Check.equal("begin(3)", x.begin(3), 1);
        fillAll(x);
        Check.type(x, "0:9");
        Check.equal("begin(2)", x.begin(2), 3);
        counts("begun anew", x, 2, 0, 0, 0, 0, 0, 60, 0, 0, 0);
        Check.equal("the buffer stays", x.firstError(), 3);
        Check.equal("begin(2) again", x.begin(2), 2);
        nothingIsLeft(x);
        for (int sections : new int[] {0, 6, Integer.MIN_VALUE, Integer.MAX_VALUE}) {
            Check.badArgument(x, "begin(" + sections + ")", () -> x.begin(sections));
        }
    }

    private static void fillAll(ArchiveMirrors x) {
        x.addPackage(2, 9, 0);
        x.addPackage(0, 8, 1);
        x.publish(0);
        x.release();
        x.setValidity(7);
        x.addMirror(7, 1, 0, ArchiveMirrors.NONE, 100, false);
        x.addClient(1);
        x.pass(2);
        x.tamper(0);
        x.pass(1);
        x.install(0, 3);
        x.tamper(0);
    }

    private static void nothingIsLeft(ArchiveMirrors x) {
        x.addPackage(0, 5, 0);
        Check.equal("after begin: version", x.packageAt(0, 3), 1);
        Check.equal("after begin: closure", x.packageAt(0, 4), 1);
        x.addMirror(1, 2, 0, ArchiveMirrors.NONE, 100, true);
        Check.equal("after begin: the mirror's index", x.mirror(0, 4), 0);
        Check.equal("after begin: the mirror's tampering", x.mirror(0, 5), 0);
        Check.equal("after begin: the mirror's files", x.mirror(0, 7), 0);
        x.addClient(1);
        Check.equal("after begin: the client's latest index", x.client(0, 1), 0);
        Check.equal("after begin: the client's packages", x.client(0, 2), 0);
        Check.equal("after begin: the first index", x.release(), 1);
        Check.equal("after begin: packages of the first index", x.index(1, 1), 1);
        x.addPackage(1, 5, 0);
        Check.equal("after begin: a package that the first index lacks", x.index(1, 5), 0);
    }

    private static void addPackage() {
        ArchiveMirrors x = new ArchiveMirrors();
        x.begin(5);
        Check.equal("addPackage(0, 1, 0)", x.addPackage(0, 1, 0), 0);
        Check.equal("addPackage(4, 99, 1)", x.addPackage(4, 99, 1), 1);
        Check.equal("addPackage(2, 50, 3)", x.addPackage(2, 50, 3), 2);
        Check.equal("section", x.packageAt(1, 0), 4);
        Check.equal("size", x.packageAt(1, 1), 99);
        Check.equal("dependencies", x.packageAt(2, 2), 3);
        Check.equal("version", x.packageAt(2, 3), 1);
        for (int i = 3; i < 12; i++) {
            Check.equal("addPackage to " + i, x.addPackage(0, 1, (1 << i) - 1), i);
        }
        Check.badState(x, "a 13th package", () -> x.addPackage(0, 1, 0));
        Check.badState(x, "a 13th package with all dependencies", () -> x.addPackage(4, 99, 4095));
        Check.badArgument(x, "a 13th package with size 0", () -> x.addPackage(0, 0, 0));
        Check.badArgument(x, "a 13th package with a 13th dependency", () -> x.addPackage(0, 1, 4096));
        Check.outOfBounds(x, "a 13th package in section 5", () -> x.addPackage(5, 0, -1));
    }

    private static void addPackageRefused() {
        ArchiveMirrors x = Check.archiveOf(3, 10, 20);
        for (int section : new int[] {-1, 3, Integer.MIN_VALUE, Integer.MAX_VALUE}) {
            Check.outOfBounds(x, "addPackage in section " + section, () -> x.addPackage(section, 1, 0));
            Check.outOfBounds(x, "addPackage in section " + section + ", all wrong",
                    () -> x.addPackage(section, 0, -1));
        }
        for (int size : new int[] {0, -1, 100, Integer.MIN_VALUE, Integer.MAX_VALUE}) {
            Check.badArgument(x, "addPackage of size " + size, () -> x.addPackage(0, size, 0));
        }
        for (int set : new int[] {-1, 4, 5, Integer.MIN_VALUE, 1 << 30}) {
            Check.badArgument(x, "addPackage on " + set, () -> x.addPackage(0, 1, set));
        }
        Check.equal("no package was added", x.count(1), 2);
        Check.equal("addPackage(2, 99, 3)", x.addPackage(2, 99, 3), 2);
    }

    private static void publish() {
        ArchiveMirrors x = Check.archiveOf(1, 10, 20);
        for (int version = 2; version <= 30; version++) {
            Check.equal("publish to " + version, x.publish(1), version);
        }
        Check.badState(x, "publish of version 30", () -> x.publish(1));
        Check.equal("version of the published one", x.packageAt(1, 3), 30);
        Check.equal("version of the other one", x.packageAt(0, 3), 1);
        for (int number : ODD) {
            Check.outOfBounds(x, "publish(" + number + ")", () -> x.publish(number));
        }
        Check.outOfBounds(x, "publish(2)", () -> x.publish(2));
    }

    private static void release() {
        ArchiveMirrors x = Check.archiveOf(1, 10, 20);
        Check.equal("the first release", x.release(), 1);
        x.pass(7);
        x.publish(0);
        x.addPackage(0, 30, 0);
        Check.equal("the second release", x.release(), 2);
        Check.equal("a release with nothing new", x.release(), 3);
        Check.equal("time of index 1", x.index(1, 0), 0);
        Check.equal("time of index 2", x.index(2, 0), 7);
        Check.equal("packages of index 1", x.index(1, 1), 2);
        Check.equal("packages of index 2", x.index(2, 1), 3);
        Check.equal("version in index 1", x.index(1, 4), 1);
        Check.equal("version in index 2", x.index(2, 4), 2);
        Check.equal("version in index 1 of a later package", x.index(1, 6), 0);
        x.publish(2);
        Check.equal("an index stays as it was", x.index(2, 6), 1);
    }

    private static void releaseRefused() {
        ArchiveMirrors x = new ArchiveMirrors();
        Check.badState(x, "release without packages", () -> x.release());
        x.addPackage(0, 1, 0);
        for (int number = 1; number <= 20; number++) {
            Check.equal("release", x.release(), number);
        }
        Check.badState(x, "a 21st release", () -> x.release());
        Check.equal("20 indexes", x.count(2), 20);
    }

    private static void signature() {
        ArchiveMirrors x = Check.archiveOf(1, 10);
        x.release();
        // 31 * 17 + 1 = 528; 2003 * 528 + 1 = 1057585 = 16 * 65521 + 9249
        Check.equal("signature of a:1 as index 1", x.index(1, 2), 9249);
        x.release();
        Check.equal("signature of a:1 as index 2", x.index(2, 2), 9250);
        x.publish(0);
        x.addPackage(0, 5, 1);
        x.release();
        // 31 * 17 + 2 = 529; 31 * 529 + 1 = 16400; 2003 * 16400 + 3 = 32849203 = 501 * 65521 + 23182
        Check.equal("signature of a:2 b:1 as index 3", x.index(3, 2), 23182);
        for (int i = 2; i < 12; i++) {
            x.addPackage(0, 5, 0);
        }
        for (int version = 2; version <= 30; version++) {
            x.publish(11);
        }
        x.release();
        long due = 17;
        for (int i = 0; i < 12; i++) {
            due = (31 * due + x.packageAt(i, 3)) % 65521;
        }
        Check.equal("signature of 12 packages", x.index(4, 2), (2003 * due + 4) % 65521);
    }

    private static void setValidity() {
        ArchiveMirrors x = Check.archiveOf(1, 10);
        Check.equal("setValidity(1)", x.setValidity(1), 60);
        Check.equal("setValidity(999)", x.setValidity(999), 1);
        Check.equal("setValidity(5)", x.setValidity(5), 999);
        Check.equal("the validity", x.count(6), 5);
        for (int minutes : new int[] {0, -1, 1000, Integer.MIN_VALUE, Integer.MAX_VALUE}) {
            Check.badArgument(x, "setValidity(" + minutes + ")", () -> x.setValidity(minutes));
        }
        x.release();
        x.pass(5);
        Check.equal("fresh at the validity", x.index(1, 3), 1);
        x.pass(1);
        Check.equal("stale behind the validity", x.index(1, 3), 0);
        x.setValidity(6);
        Check.equal("fresh again by a longer validity", x.index(1, 3), 1);
    }

    private static void count() {
        ArchiveMirrors x = Check.archiveOf(4, 10, 20, 30);
        x.release();
        x.release();
        x.addMirror(1, 1, 0, ArchiveMirrors.NONE, 60, true);
        x.addMirror(1, 1, 0, 0, 30, true);
        x.addMirror(8, 1, 0, 0, 1, true);
        x.addMirror(1, 60, 0, 0, 1, true);
        x.addClient(1);
        x.addClient(15);
        x.pass(1);
        x.setValidity(77);
        counts("count", x, 4, 3, 2, 4, 2, 1, 77, 2, 5, 5);
        for (int what : new int[] {-1, 10, Integer.MIN_VALUE, Integer.MAX_VALUE}) {
            Check.badArgument(x, "count(" + what + ")", () -> x.count(what));
        }
    }

    private static void countFiles() {
        ArchiveMirrors x = Check.archiveOf(1, 10, 20);
        x.release();
        x.addMirror(1, 1, 0, ArchiveMirrors.NONE, 60, false);
        x.pass(1);
        Check.equal("complete", x.count(7), 1);
        x.tamper(0);
        Check.equal("tampered with, so not complete", x.count(7), 0);
        x.removeFile(0, 0, 1);
        Check.equal("files after one was removed", x.count(8), 1);
        Check.equal("copied files stay counted", x.count(9), 2);
        x.pass(1);
        Check.equal("copied again", x.count(9), 3);
        x.publish(1);
        x.release();
        x.pass(1);
        Check.equal("old files are gone", x.count(8), 2);
        Check.equal("copied in all", x.count(9), 4);
    }

    private static void packageAt() {
        ArchiveMirrors x = new ArchiveMirrors();
        x.begin(3);
        x.addPackage(1, 10, 0);
        x.addPackage(2, 20, 1);
        x.addPackage(0, 30, 0);
        x.addPackage(1, 40, 2);
        x.addPackage(1, 50, 12);
        int[] due = {1, 50, 12, 1, 31, 0};
        for (int what = 0; what < due.length; what++) {
            Check.equal("packageAt(4, " + what + ")", x.packageAt(4, what), due[what]);
        }
        Check.equal("closure over a chain", x.packageAt(3, 4), 11);
        Check.equal("closure of a package alone", x.packageAt(2, 4), 4);
        x.release();
        x.addMirror(7, 1, 0, ArchiveMirrors.NONE, 200, true);
        x.addMirror(2, 1, 0, ArchiveMirrors.NONE, 200, true);
        x.pass(1);
        Check.equal("two mirrors have it", x.packageAt(0, 5), 2);
        Check.equal("one mirror has it", x.packageAt(1, 5), 1);
        x.publish(0);
        Check.equal("no mirror has the new version", x.packageAt(0, 5), 0);
        for (int number : ODD) {
            Check.outOfBounds(x, "packageAt(" + number + ", 0)", () -> x.packageAt(number, 0));
        }
        Check.outOfBounds(x, "packageAt(5, 6)", () -> x.packageAt(5, 6));
        for (int what : new int[] {-1, 6, Integer.MIN_VALUE, Integer.MAX_VALUE}) {
            Check.badArgument(x, "packageAt(0, " + what + ")", () -> x.packageAt(0, what));
        }
    }

    private static void index() {
        ArchiveMirrors x = Check.archiveOf(1, 10, 20);
        Check.outOfBounds(x, "index(1, 0) without indexes", () -> x.index(1, 0));
        x.pass(3);
        x.publish(1);
        x.release();
        x.addPackage(0, 30, 0);
        Check.equal("time", x.index(1, 0), 3);
        Check.equal("packages", x.index(1, 1), 2);
        Check.equal("fresh", x.index(1, 3), 1);
        Check.equal("version of a", x.index(1, 4), 1);
        Check.equal("version of b", x.index(1, 5), 2);
        Check.equal("version of c, which is not in it", x.index(1, 6), 0);
        for (int what : new int[] {-1, 7, Integer.MIN_VALUE, Integer.MAX_VALUE}) {
            Check.badArgument(x, "index(1, " + what + ")", () -> x.index(1, what));
        }
        for (int number : new int[] {0, 2, -1, Integer.MIN_VALUE, Integer.MAX_VALUE}) {
            Check.outOfBounds(x, "index(" + number + ", 0)", () -> x.index(number, 0));
            Check.outOfBounds(x, "index(" + number + ", -1)", () -> x.index(number, -1));
        }
        x.pass(60);
        Check.equal("fresh after 60 minutes", x.index(1, 3), 1);
        x.pass(1);
        Check.equal("stale after 61 minutes", x.index(1, 3), 0);
    }
}
