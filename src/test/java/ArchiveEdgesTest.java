/**
 * The boundary cases of the archive: promises 1 to 6 and 22 to 24, and "Archive" in the description.
 * Above each test stands the sentence of the document that it holds to.
 */
public final class ArchiveEdgesTest {
    private static final int NONE = ArchiveMirrors.NONE;

    public static void main(String[] args) {
        newObjectHasOneSection();
        newObjectIsEmpty();
        beginEmptiesAFullObject();
        beginLeavesRoomForAll();
        beginForgetsWhatWas();
        beginKeepsTheBuffer();
        twelvePackages();
        lastPackageIsLikeTheFirst();
        versionIsOneAtFirst();
        versionsUpToThirty();
        archiveKeepsOldFiles();
        closureOfAChain();
        closureOfOneAlone();
        closureCountsAPackageOnce();
        indexHasThePackagesThatThereAre();
        twentyIndexes();
        releaseNeedsAPackage();
        timeOfAnIndex();
        signatureOfOnePackage();
        signatureAtTheModulus();
        signatureOfTwelveAtThirty();
        freshAtJustTheValidity();
        validityAtItsLimits();
        indexOfALaterPackage();
        countsOfAFullObject();
        filesAndCopies();
        mirrorsThatHaveTheFile();
        Check.end();
    }

    private static void counts(String where, ArchiveMirrors x, int... due) {
        for (int what = 0; what < due.length; what++) {
            Check.equal(where + ": count(" + what + ")", x.count(what), due[what]);
        }
    }

    /** "Creates an archive with 1 section" */
    private static void newObjectHasOneSection() {
        ArchiveMirrors x = new ArchiveMirrors();
        Check.equal("begin tells the 1 section of a new object", x.begin(1), 1);
        ArchiveMirrors y = new ArchiveMirrors();
        Check.equal("a new object takes a package in section 0", y.addPackage(0, 1, 0), 0);
        Check.outOfBounds(y, "a new object has no section 1", () -> y.addPackage(1, 1, 0));
        Check.equal("a new object takes a mirror for section 0", y.addMirror(1, 1, 0, NONE, 1, true), 0);
        Check.badArgument(y, "a new object has no mirror for section 1", () -> y.addMirror(2, 1, 0, NONE, 1, true));
    }

    /** "without packages, indexes, mirrors and clients, and an empty buffer" */
    private static void newObjectIsEmpty() {
        ArchiveMirrors x = new ArchiveMirrors();
        counts("new object", x, 1, 0, 0, 0, 0, 0, 60, 0, 0, 0);
        Check.equal("an empty buffer", x.clearInput(), 0);
        Check.equal("time passes also there", x.pass(200), 0);
        counts("new object, later", x, 1, 0, 0, 0, 0, 200, 60, 0, 0, 0);
    }

    /** "Begins anew with an archive without packages, indexes, mirrors and clients; the time is 0, .." */
    private static void beginEmptiesAFullObject() {
        ArchiveMirrors x = States.full();
        x.setValidity(999);
        Check.equal("begin(1) of a full object", x.begin(1), 5);
        counts("begun anew", x, 1, 0, 0, 0, 0, 0, 60, 0, 0, 0);
        Check.equal("begun anew: meanAge", x.meanAge(), 0.0);
        Check.outOfBounds(x, "begun anew: package 0", () -> x.publish(0));
        Check.outOfBounds(x, "begun anew: index 1", () -> x.index(1, 0));
        Check.outOfBounds(x, "begun anew: mirror 0", () -> x.tamper(0));
        Check.outOfBounds(x, "begun anew: client 0", () -> x.install(0, 0));
        Check.badState(x, "begun anew: release", () -> x.release());
        Check.badArgument(x, "begun anew: a set of packages", () -> x.addPackage(0, 1, 1));
        Check.outOfBounds(x, "begun anew: an upstream", () -> x.addMirror(1, 1, 0, 0, 1, true));
        Check.outOfBounds(x, "begun anew: section 1", () -> x.addPackage(1, 1, 0));
    }

    private static void beginLeavesRoomForAll() {
        ArchiveMirrors x = States.full();
        x.begin(5);
        x.clearInput();
        for (int i = 0; i < 12; i++) {
            Check.equal("package after begin", x.addPackage(4, 99, (1 << i) - 1), i);
        }
        for (int i = 1; i <= 20; i++) {
            Check.equal("release after begin", x.release(), i);
        }
        for (int i = 0; i < 6; i++) {
            Check.equal("mirror after begin", x.addMirror(31, 60, 59, i - 1, 200, true), i);
        }
        for (int i = 0; i < 4; i++) {
            Check.equal("client after begin", x.addClient(63), i);
        }
        counts("full again", x, 5, 12, 20, 6, 4, 0, 60, 0, 0, 0);
    }

    /** The same calls on an object that was full and has begun anew, and on a new one. */
    private static void beginForgetsWhatWas() {
        ArchiveMirrors x = States.full();
        x.tamper(0);
        x.tamper(1);
        x.begin(2);
        x.clearInput();
        ArchiveMirrors y = new ArchiveMirrors();
        y.begin(2);
        Check.equal("begun anew: digest", x.digest(), y.digest());
        for (ArchiveMirrors z : new ArchiveMirrors[] {x, y}) {
            z.addPackage(1, 30, 0);
            z.addMirror(3, 2, 0, NONE, 50, false);
            z.addMirror(3, 2, 1, 0, 50, true);
            z.addClient(3);
            z.release();
            z.addPackage(0, 30, 1);
        }
        Check.equal("begun anew and built up: digest", x.digest(), y.digest());
        Check.equal("begun anew and built up: later answers",
                States.future(x).equals(States.future(y)) ? 1 : 0, 1);
    }

    /** "The buffer stays." */
    private static void beginKeepsTheBuffer() {
        ArchiveMirrors x = new ArchiveMirrors();
        x.begin(5);
        Check.type(x, States.SIXTY);
        x.begin(1);
        Check.badState(x, "begin leaves 60 characters", () -> x.append('0'));
        Check.equal("begin leaves 60 characters", x.clearInput(), 60);
        Check.type(x, "0:1;4:2");
        x.begin(5);
        Check.equal("section 4 exists", x.firstError(), 7);
        x.begin(4);
        Check.equal("section 4 does not exist", x.firstError(), 4);
        x.begin(5);
        Check.equal("the buffer that stayed is loaded", x.load(), 2);
    }

    /** "at most 12 packages, numbered from 0 in the order in which they were added" */
    private static void twelvePackages() {
        ArchiveMirrors x = new ArchiveMirrors();
        for (int i = 0; i < 12; i++) {
            Check.equal("package " + i, x.addPackage(0, 10 + i, 0), i);
            Check.equal("packages", x.count(1), i + 1);
        }
        Check.badState(x, "a 13th package", () -> x.addPackage(0, 1, 0));
        Check.equal("packages", x.count(1), 12);
        for (int i = 0; i < 12; i++) {
            Check.equal("size of " + i, x.packageAt(i, 1), 10 + i);
        }
    }

    /** The 12th package, with the number 11, in each call that takes a package. */
    private static void lastPackageIsLikeTheFirst() {
        ArchiveMirrors x = States.of(1, 12, 0, 0, 0);
        x.publish(11);
        x.release();
        x.addMirror(1, 1, 0, NONE, 200, true);
        x.addClient(1);
        x.pass(1);
        Check.equal("install of l", x.install(0, 1 << 11), 0);
        Check.equal("version of l", x.packageAt(11, 3), 2);
        Check.equal("files of l", x.files(0, 11), 1 << 2);
        Check.equal("l in the index", x.index(1, 15), 2);
        Check.equal("l is installed", x.client(0, 14), 2);
        Check.equal("all are installed for l", x.client(0, 2), 4095);
        Check.equal("removeFile of l", x.removeFile(0, 11, 2), 11);
        Check.equal("no file of l", x.files(0, 11), 0);
    }

    /** "It has a version, which is 1 at first" */
    private static void versionIsOneAtFirst() {
        ArchiveMirrors x = new ArchiveMirrors();
        x.addPackage(0, 1, 0);
        Check.equal("version of an added package", x.packageAt(0, 3), 1);
        Check.equal("the first publishing", x.publish(0), 2);
        Check.type(x, "0:1");
        x.load();
        Check.equal("version of a loaded package", x.packageAt(1, 3), 1);
        Check.equal("version of the one before it", x.packageAt(0, 3), 2);
    }

    /** "increases by 1 when the package is published, up to 30" */
    private static void versionsUpToThirty() {
        ArchiveMirrors x = Check.archiveOf(1, 10, 10);
        for (int version = 2; version <= 30; version++) {
            Check.equal("publish", x.publish(0), version);
        }
        Check.badState(x, "publish of version 30", () -> x.publish(0));
        Check.equal("the version stays 30", x.packageAt(0, 3), 30);
        Check.equal("another can be published", x.publish(1), 2);
        x.release();
        x.addMirror(1, 1, 0, NONE, 20, true);
        x.addClient(1);
        x.pass(1);
        Check.equal("version 30 in the index", x.index(1, 4), 30);
        Check.equal("version 30 as a file", x.files(0, 0), 1 << 30);
        Check.equal("install of version 30", x.install(0, 1), 0);
        Check.equal("version 30 is installed", x.client(0, 3), 30);
        Check.equal("mirrors with version 30", x.packageAt(0, 5), 1);
        Check.equal("removeFile of version 30", x.removeFile(0, 0, 30), 1);
    }

    /** "For each package and each of its versions up to now, there is a file in the archive" */
    private static void archiveKeepsOldFiles() {
        ArchiveMirrors x = Check.archiveOf(1, 10);
        x.release();
        for (int version = 2; version <= 30; version++) {
            x.publish(0);
        }
        x.addMirror(1, 1, 0, NONE, 10, true);
        Check.equal("version 1 is copied when there is version 30", x.pass(1), 1);
        Check.equal("version 1", x.files(0, 0), 1 << 1);
        Check.equal("no mirror has version 30", x.packageAt(0, 5), 0);
        x.release();
        x.pass(1);
        Check.equal("then version 30", x.files(0, 0), 1 << 30);
    }

    /** "of those on which they depend, of those on which these depend, and so on" */
    private static void closureOfAChain() {
        ArchiveMirrors x = States.of(1, 12, 0, 0, 0);
        for (int i = 0; i < 12; i++) {
            Check.equal("closure of " + i + " in a chain", x.packageAt(i, 4), (2 << i) - 1);
        }
    }

    private static void closureOfOneAlone() {
        ArchiveMirrors x = new ArchiveMirrors();
        for (int i = 0; i < 12; i++) {
            x.addPackage(0, 1, 0);
        }
        for (int i = 0; i < 12; i++) {
            Check.equal("closure of " + i + " alone", x.packageAt(i, 4), 1 << i);
        }
    }

    private static void closureCountsAPackageOnce() {
        ArchiveMirrors x = new ArchiveMirrors();
        x.addPackage(0, 10, 0);
        x.addPackage(0, 20, 1);
        x.addPackage(0, 30, 1);
        x.addPackage(0, 40, 6);
        x.addPackage(0, 50, 0);
        Check.equal("closure over two ways", x.packageAt(3, 4), 15);
        x.release();
        x.addMirror(1, 1, 0, NONE, 200, false);
        x.addClient(1);
        x.pass(1);
        Check.equal("size over two ways", x.ifInstalled(0, 8, 3), 100);
    }

    /** "A release makes an index of all packages that there are, with their versions at that time." */
    private static void indexHasThePackagesThatThereAre() {
        ArchiveMirrors x = new ArchiveMirrors();
        x.addPackage(0, 1, 0);
        x.release();
        Check.equal("an index of 1 package", x.index(1, 1), 1);
        for (int i = 1; i < 12; i++) {
            x.addPackage(0, 1, 0);
        }
        x.publish(0);
        x.release();
        Check.equal("an index of 12 packages", x.index(2, 1), 12);
        Check.equal("the first keeps 1 package", x.index(1, 1), 1);
        Check.equal("the first keeps version 1", x.index(1, 4), 1);
        Check.equal("the second has version 2", x.index(2, 4), 2);
        for (int i = 1; i < 12; i++) {
            Check.equal("not in the first", x.index(1, 4 + i), 0);
            Check.equal("in the second", x.index(2, 4 + i), 1);
        }
    }

    /** "The indexes are numbered from 1; there are at most 20." */
    private static void twentyIndexes() {
        ArchiveMirrors x = Check.archiveOf(1, 10);
        x.addMirror(1, 1, 0, NONE, 10, false);
        x.addClient(1);
        for (int i = 1; i <= 20; i++) {
            Check.equal("release", x.release(), i);
            Check.equal("indexes", x.count(2), i);
            Check.equal("indexes that are later than none", x.mirror(0, 9), i);
        }
        Check.badState(x, "a 21st release", () -> x.release());
        Check.equal("indexes", x.count(2), 20);
        x.pass(1);
        Check.equal("the mirror takes index 20", x.mirror(0, 4), 20);
        Check.equal("none is later than index 20", x.mirror(0, 9), 0);
        Check.equal("the client uses index 20", x.ifInstalled(0, 1, 1), 20);
        x.publish(0);
        Check.badState(x, "a 21st release with a new version", () -> x.release());
        x.addPackage(0, 1, 0);
        Check.badState(x, "a 21st release with a new package", () -> x.release());
    }

    /** "Throws IllegalStateException if there are no packages" */
    private static void releaseNeedsAPackage() {
        ArchiveMirrors x = new ArchiveMirrors();
        Check.badState(x, "release without packages", () -> x.release());
        x.addPackage(0, 1, 0);
        Check.equal("release of one package", x.release(), 1);
    }

    /** "An index has the time at which it was released" */
    private static void timeOfAnIndex() {
        ArchiveMirrors x = Check.archiveOf(1, 10);
        x.release();
        x.pass(200);
        x.release();
        x.pass(1);
        x.release();
        x.release();
        Check.equal("at the beginning", x.index(1, 0), 0);
        Check.equal("after 200 minutes", x.index(2, 0), 200);
        Check.equal("after a minute more", x.index(3, 0), 201);
        Check.equal("twice in a minute", x.index(4, 0), 201);
    }

    /** Beginning with 17: 31 * 17 + v is 527 + v, and 2003 * (527 + v) + n mod 65521 follows. */
    private static void signatureOfOnePackage() {
        ArchiveMirrors x = Check.archiveOf(1, 10);
        x.release();
        Check.equal("version 1, index 1", x.index(1, 2), 9249);
        for (int i = 2; i <= 30; i++) {
            x.publish(0);
        }
        for (int i = 2; i <= 20; i++) {
            x.release();
        }
        // 31 * 17 + 30 = 557; 2003 * 557 = 1115671 = 17 * 65521 + 1814
        Check.equal("version 30, index 2", x.index(2, 2), 1816);
        Check.equal("version 30, index 20", x.index(20, 2), 1834);
    }

    private static void publishUpTo(ArchiveMirrors x, int number, int version) {
        for (int from = x.packageAt(number, 3); from < version; from++) {
            x.publish(number);
        }
    }

    /** "becomes (31 * signature + version) mod 65521": the last value below the modulus, and the wrap to 0. */
    private static void signatureAtTheModulus() {
        ArchiveMirrors x = Check.archiveOf(1, 10, 10, 10);
        publishUpTo(x, 0, 18);
        publishUpTo(x, 1, 13);
        publishUpTo(x, 2, 19);
        x.release();
        // 31 * (31 * (31 * 17 + 18) + 13) + 19 = 8 * 65521 - 1, so that 2003 * 65520 + 1 = -2002 mod 65521
        Check.equal("the last below the modulus", x.index(1, 2), 63519);
        x.publish(2);
        x.release();
        Check.equal("the signature is 0 before the number", x.index(2, 2), 2);
    }

    private static void signatureOfTwelveAtThirty() {
        ArchiveMirrors x = new ArchiveMirrors();
        long due = 17;
        for (int i = 0; i < 12; i++) {
            x.addPackage(0, 1, 0);
            publishUpTo(x, i, 19 + i);
            due = (31 * due + 19 + i) % 65521;
        }
        x.release();
        Check.equal("twelve packages, the last at version 30", x.index(1, 2), (2003 * due + 1) % 65521);
    }

    /** "An index is fresh if the time minus the time of its release is at most the validity." */
    private static void freshAtJustTheValidity() {
        ArchiveMirrors x = Check.archiveOf(1, 10);
        x.pass(7);
        x.release();
        x.pass(60);
        Check.equal("fresh at just 60 minutes", x.index(1, 3), 1);
        x.pass(1);
        Check.equal("not fresh one minute later", x.index(1, 3), 0);
        x.setValidity(61);
        Check.equal("fresh by a validity of 61", x.index(1, 3), 1);
        x.setValidity(60);
        Check.equal("not fresh by one of 60", x.index(1, 3), 0);
        x.release();
        Check.equal("a new one is fresh", x.index(2, 3), 1);
        Check.equal("and makes no other fresh", x.index(1, 3), 0);
    }

    /** "minutes: 1 to 999"; "which is 60 minutes at first" */
    private static void validityAtItsLimits() {
        ArchiveMirrors x = Check.archiveOf(1, 10);
        Check.equal("the validity at first", x.setValidity(1), 60);
        x.release();
        x.pass(1);
        Check.equal("fresh for 1 minute", x.index(1, 3), 1);
        x.pass(1);
        Check.equal("not for 2", x.index(1, 3), 0);
        Check.badArgument(x, "setValidity(0)", () -> x.setValidity(0));
        Check.badArgument(x, "setValidity(1000)", () -> x.setValidity(1000));
        Check.equal("the validity before", x.setValidity(999), 1);
        for (int i = 0; i < 4; i++) {
            x.pass(200);
        }
        x.pass(197);
        Check.equal("fresh for 999 minutes", x.index(1, 3), 1);
        x.pass(1);
        Check.equal("not for 1000", x.index(1, 3), 0);
    }

    /** "0 if this package is not in it"; "what minus 4 is not less than the number of packages" */
    private static void indexOfALaterPackage() {
        ArchiveMirrors x = Check.archiveOf(1, 10);
        x.release();
        Check.badArgument(x, "package 1 does not exist", () -> x.index(1, 5));
        x.addPackage(0, 1, 0);
        x.publish(1);
        Check.equal("package 1 is not in it", x.index(1, 5), 0);
        Check.badArgument(x, "package 2 does not exist", () -> x.index(1, 6));
    }

    private static void countsOfAFullObject() {
        ArchiveMirrors x = States.full();
        int files = 0;
        int complete = 0;
        for (int i = 0; i < 6; i++) {
            files += x.mirror(i, 7);
            complete += x.mirror(i, 10);
        }
        Check.equal("some mirrors are complete and some are not", complete > 0 && complete < 6 ? 1 : 0, 1);
        counts("full object", x, 5, 12, 20, 6, 4, 6, 60, complete, files);
    }

    /** "8 for the number of files that all mirrors have, 9 for the number of files that were copied" */
    private static void filesAndCopies() {
        ArchiveMirrors x = Check.archiveOf(1, 10, 10);
        x.release();
        x.addMirror(1, 60, 1, NONE, 20, false);
        x.addMirror(1, 1, 0, 0, 20, false);
        x.pass(1);
        counts("copied", x, 1, 2, 1, 2, 0, 1, 60, 2, 4, 4);
        x.removeFile(0, 0, 1);
        counts("a file is removed", x, 1, 2, 1, 2, 0, 1, 60, 1, 3, 4);
        x.publish(1);
        x.release();
        x.pass(60);
        counts("the old files are removed", x, 1, 2, 2, 2, 0, 61, 60, 2, 4, 7);
    }

    /** "the number of mirrors that have the file of its version": none to all six. */
    private static void mirrorsThatHaveTheFile() {
        ArchiveMirrors x = Check.archiveOf(1, 10);
        x.release();
        for (int i = 0; i < 6; i++) {
            Check.equal("mirrors with the file", x.packageAt(0, 5), i);
            x.addMirror(1, 1, 0, i - 1, 10, i % 2 == 0);
            x.pass(1);
        }
        Check.equal("mirrors with the file", x.packageAt(0, 5), 6);
        for (int i = 5; i >= 0; i--) {
            x.tamper(i);
            Check.equal("a file counts also where the index is tampered with", x.packageAt(0, 5), i + 1);
            x.removeFile(i, 0, 1);
            Check.equal("mirrors with the file", x.packageAt(0, 5), i);
        }
    }
}
