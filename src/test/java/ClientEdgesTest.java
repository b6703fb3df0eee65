/**
 * The boundary cases of the clients: promises 17 to 21, and "Clients" in the description.
 * Above each test stands the sentence of the document that it holds to.
 */
public final class ClientEdgesTest {
    private static final int NONE = ArchiveMirrors.NONE;

    public static void main(String[] args) {
        fourClients();
        lastClientIsLikeTheFirst();
        nothingInstalledAtFirst();
        clientWithoutPackages();
        freshAtJustTheValidity();
        freshAtOtherValidities();
        noIndexAtAll();
        noIndexButATamperedOne();
        noIndexButAStaleOne();
        staleOnesAreLeftOut();
        olderIndex();
        sameIndex();
        notInTheIndex();
        installedPackageNotInTheIndex();
        noFile();
        noFileOfThatVersion();
        fileOfAnotherVersionIsNoFile();
        fileOfAnInstalledPackage();
        filesOfMirrorsWithoutAGoodIndex();
        lowestReasonOfEachTwo();
        refusedInstallChangesNothing();
        emptySetOfANewClient();
        emptySetOfAnOldClient();
        emptySetIsRefusedToo();
        allTwelve();
        changedSizes();
        changedSizeAtItsGreatest();
        fewestOfNoneToSix();
        fewestWithoutTheGreatest();
        fewestLooksAtOwnMirrors();
        wantedIsToldAlsoIfRefused();
        untilZero();
        untilOneToSixty();
        untilSixtyOne();
        untilTheIndexIsStale();
        untilForARefusalThatStays();
        untilChangesNothing();
        versionsOfTheIndexUsed();
        Check.end();
    }

    /** ifInstalled for 0 to 4. */
    private static void planIs(String where, ArchiveMirrors x, int client, int packages, int... due) {
        for (int what = 0; what < due.length; what++) {
            Check.equal(where + ": ifInstalled(" + client + ", " + packages + ", " + what + ")",
                    x.ifInstalled(client, packages, what), due[what]);
        }
    }

    /** The client's properties from 0 on. */
    private static void clientIs(String where, ArchiveMirrors x, int client, int... due) {
        for (int what = 0; what < due.length; what++) {
            Check.equal(where + ": client(" + client + ", " + what + ")", x.client(client, what), due[what]);
        }
    }

    /** Sizes 10, 20, 30: b depends on a; index 1 is at mirror 0, and client 0 uses it. */
    private static ArchiveMirrors three() {
        ArchiveMirrors x = new ArchiveMirrors();
        x.addPackage(0, 10, 0);
        x.addPackage(0, 20, 1);
        x.addPackage(0, 30, 0);
        x.release();
        x.addMirror(1, 1, 0, NONE, 200, false);
        x.addClient(1);
        x.pass(1);
        return x;
    }

    /** Mirror 0 pulls each minute, mirror 1 has index 1 for an hour; client 0 uses both and has used index 2. */
    private static ArchiveMirrors twoIndexes() {
        ArchiveMirrors x = Check.archiveOf(1, 10, 20, 30);
        x.release();
        x.addMirror(1, 1, 0, NONE, 200, false);
        x.addMirror(1, 60, 1, NONE, 200, false);
        x.addClient(3);
        x.pass(1);
        x.release();
        x.pass(1);
        Check.equal("index 2 is used", x.install(0, 1), 0);
        return x;
    }

    /** "There are at most 4 clients, numbered from 0 in the order in which they were added." */
    private static void fourClients() {
        ArchiveMirrors x = States.of(1, 2, 1, 6, 0);
        for (int i = 0; i < 4; i++) {
            Check.equal("client", x.addClient(1 + i), i);
            Check.equal("clients", x.count(4), i + 1);
        }
        Check.badState(x, "a 5th client", () -> x.addClient(1));
        Check.equal("clients", x.count(4), 4);
        for (int i = 0; i < 4; i++) {
            clientIs("four clients", x, i, 1 + i, 0, 0, 0, 0);
        }
    }

    /** The 4th client, with the number 3, in each call that takes a client. */
    private static void lastClientIsLikeTheFirst() {
        ArchiveMirrors x = three();
        for (int i = 1; i < 4; i++) {
            x.addClient(1);
        }
        planIs("the last", x, 3, 2, 0, 1, 3, 30, 1);
        Check.equal("until", x.until(3, 2), 0);
        Check.equal("install", x.install(3, 2), 0);
        clientIs("the last", x, 3, 1, 1, 3, 1, 1, 0);
        for (int i = 0; i < 3; i++) {
            clientIs("the others", x, i, 1, 0, 0, 0, 0, 0);
        }
    }

    /** "a version, or none (0)"; "the latest index that it has used, 0 at first" */
    private static void nothingInstalledAtFirst() {
        ArchiveMirrors x = three();
        x.install(0, 7);
        x.addClient(1);
        clientIs("at first", x, 1, 1, 0, 0, 0, 0, 0);
        clientIs("the other", x, 0, 1, 1, 7, 1, 1, 1);
    }

    /** Without packages there is no index, and no what of 3 and more. */
    private static void clientWithoutPackages() {
        ArchiveMirrors x = new ArchiveMirrors();
        x.addMirror(1, 1, 0, NONE, 1, false);
        x.addClient(1);
        x.pass(1);
        clientIs("without packages", x, 0, 1, 0, 0);
        Check.badArgument(x, "client(0, 3)", () -> x.client(0, 3));
        Check.equal("install of nothing", x.install(0, 0), 1);
        planIs("without packages", x, 0, 0, 1, 0, 0, NONE, NONE);
        Check.equal("until for nothing", x.until(0, 0), NONE);
        Check.badArgument(x, "install of package 0", () -> x.install(0, 1));
    }

    /** "An index is fresh if the time minus the time of its release is at most the validity." */
    private static void freshAtJustTheValidity() {
        ArchiveMirrors x = three();
        x.pass(59);
        planIs("at just the validity", x, 0, 1, 0, 1, 1, 10, 1);
        x.pass(1);
        planIs("one minute more", x, 0, 1, 1, 0, 1, NONE, NONE);
        Check.equal("one minute more", x.install(0, 1), 1);
        x.release();
        x.pass(1);
        Check.equal("with a new index", x.install(0, 1), 0);
    }

    private static void freshAtOtherValidities() {
        ArchiveMirrors x = three();
        x.setValidity(1);
        Check.equal("1 minute at a validity of 1", x.ifInstalled(0, 1, 0), 0);
        x.pass(1);
        Check.equal("2 minutes at a validity of 1", x.ifInstalled(0, 1, 0), 1);
        x.setValidity(2);
        Check.equal("2 minutes at a validity of 2", x.ifInstalled(0, 1, 0), 0);
        x.setValidity(999);
        for (int i = 0; i < 4; i++) {
            x.pass(200);
        }
        x.pass(197);
        Check.equal("999 minutes at a validity of 999", x.ifInstalled(0, 1, 0), 0);
        x.pass(1);
        Check.equal("1000 minutes at a validity of 999", x.ifInstalled(0, 1, 0), 1);
    }

    /** "1 if there is no such index" */
    private static void noIndexAtAll() {
        ArchiveMirrors x = Check.archiveOf(1, 10);
        x.addMirror(1, 60, 1, NONE, 10, false);
        x.addClient(1);
        planIs("without a release", x, 0, 1, 1, 0, 1, NONE, NONE);
        x.release();
        planIs("without a pull", x, 0, 1, 1, 0, 1, NONE, NONE);
        x.pass(1);
        planIs("with a pull", x, 0, 1, 0, 1, 1, 10, 1);
    }

    private static void noIndexButATamperedOne() {
        ArchiveMirrors x = twoIndexes();
        x.tamper(0);
        x.tamper(1);
        planIs("both are tampered with", x, 0, 1, 1, 0, 1, NONE, NONE);
    }

    private static void noIndexButAStaleOne() {
        ArchiveMirrors x = twoIndexes();
        x.setValidity(1);
        planIs("index 2 is fresh", x, 0, 1, 0, 2, 1, 0, 1);
        x.tamper(0);
        planIs("index 1 is stale", x, 0, 1, 1, 0, 1, NONE, NONE);
        x.setValidity(2);
        planIs("index 1 is fresh, but older", x, 0, 1, 2, 1, 1, NONE, NONE);
    }

    /** "the greatest number among the indexes .. that are not tampered with and are fresh" */
    private static void staleOnesAreLeftOut() {
        ArchiveMirrors x = Check.archiveOf(1, 10);
        for (int i = 0; i < 6; i++) {
            x.addMirror(1, 60, 6 - i, NONE, 10, false);
        }
        x.addClient(63);
        for (int i = 0; i < 6; i++) {
            x.release();
            x.pass(1);
        }
        for (int i = 0; i < 6; i++) {
            Check.equal("the index of mirror " + i, x.mirror(i, 4), 6 - i);
            Check.equal("the greatest that is not tampered with", x.ifInstalled(0, 1, 1), 6 - i);
            x.setValidity(i + 1);
            Check.equal("and is just fresh", x.ifInstalled(0, 1, 1), 6 - i);
            if (i > 0) {
                x.setValidity(i);
                Check.equal("and not fresh", x.ifInstalled(0, 1, 1), 0);
            }
            x.setValidity(60);
            x.tamper(i);
        }
        Check.equal("none", x.ifInstalled(0, 1, 1), 0);
    }

    /** "2 if the number of the index is less than that of the latest index that the client has used" */
    private static void olderIndex() {
        ArchiveMirrors x = twoIndexes();
        x.tamper(0);
        planIs("index 1 behind index 2", x, 0, 0, 2, 1, 1, NONE, NONE);
        Check.equal("index 1 behind index 2", x.install(0, 1), 2);
        x.addClient(3);
        Check.equal("another client may use it", x.install(1, 1), 0);
        Check.equal("and then index 2", x.pass(1), 0);
        Check.equal("and then index 2", x.install(1, 1), 0);
        Check.equal("index 2", x.client(1, 1), 2);
    }

    private static void sameIndex() {
        ArchiveMirrors x = twoIndexes();
        Check.equal("the same index again", x.install(0, 2), 0);
        clientIs("the same index again", x, 0, 3, 2, 3, 1, 1, 0);
        Check.equal("and again", x.install(0, 2), 0);
    }

    /** "3 if one of the wanted packages is not in the index" */
    private static void notInTheIndex() {
        ArchiveMirrors x = three();
        x.addPackage(0, 40, 4);
        planIs("d alone is not in it", x, 0, 8, 3, 1, 12, NONE, NONE);
        planIs("d is one of all", x, 0, 15, 3, 1, 15, NONE, NONE);
        planIs("c is the last in it", x, 0, 4, 0, 1, 4, 30, 1);
        planIs("all that are in it", x, 0, 7, 0, 1, 7, 60, 1);
        x.release();
        Check.equal("a release alone does not help", x.install(0, 8), 3);
        x.pass(1);
        Check.equal("a pull does", x.install(0, 8), 0);
    }

    /** What is installed stays in all later indexes, so that only a set with a new package is refused so. */
    private static void installedPackageNotInTheIndex() {
        ArchiveMirrors x = three();
        x.install(0, 7);
        x.addPackage(0, 40, 0);
        Check.equal("nothing new", x.install(0, 0), 0);
        Check.equal("a new one", x.install(0, 8), 3);
        clientIs("nothing of it is installed", x, 0, 1, 1, 7, 1, 1, 1, 0);
    }

    /** "4 if none of its mirrors has the file of some wanted package with the version told in the index" */
    private static void noFile() {
        ArchiveMirrors x = three();
        x.removeFile(0, 0, 1);
        planIs("a is nowhere", x, 0, 1, 4, 1, 1, NONE, NONE);
        planIs("b depends on a", x, 0, 2, 4, 1, 3, NONE, NONE);
        planIs("c does not", x, 0, 4, 0, 1, 4, 30, 1);
        planIs("c with a", x, 0, 5, 4, 1, 5, NONE, NONE);
        x.pass(1);
        planIs("a is copied again", x, 0, 5, 0, 1, 5, 40, 1);
    }

    private static void noFileOfThatVersion() {
        ArchiveMirrors x = Check.archiveOf(1, 10, 20);
        x.release();
        x.addMirror(1, 1, 0, NONE, 20, false);
        x.addClient(1);
        x.pass(2);
        x.publish(0);
        x.publish(1);
        x.release();
        x.pass(1);
        Check.equal("a is copied", x.files(0, 0), 4);
        planIs("b is not", x, 0, 2, 4, 2, 2, NONE, NONE);
        planIs("a is", x, 0, 1, 0, 2, 1, 10, 1);
        x.pass(1);
        planIs("then b too", x, 0, 3, 0, 2, 3, 30, 1);
    }

    /** Mirror 1 has an old version of a alone, and mirror 0 the index without the file. */
    private static void fileOfAnotherVersionIsNoFile() {
        ArchiveMirrors x = Check.archiveOf(1, 10);
        x.release();
        x.addMirror(1, 1, 0, NONE, 10, false);
        x.addMirror(1, 60, 1, NONE, 10, false);
        x.addClient(3);
        x.addClient(2);
        x.pass(1);
        x.publish(0);
        x.release();
        x.pass(1);
        x.removeFile(0, 0, 2);
        planIs("version 1 for index 2", x, 0, 1, 4, 2, 1, NONE, NONE);
        planIs("version 1 for index 1", x, 1, 1, 0, 1, 1, 10, 1);
    }

    /** "The wanted packages are the closure of the set together with all packages that .. installed." */
    private static void fileOfAnInstalledPackage() {
        ArchiveMirrors x = three();
        x.install(0, 2);
        x.removeFile(0, 0, 1);
        planIs("a is wanted, though it is installed", x, 0, 0, 4, 1, 3, NONE, NONE);
        planIs("also for c", x, 0, 4, 4, 1, 7, NONE, NONE);
        x.addClient(1);
        planIs("another client wants c alone", x, 1, 4, 0, 1, 4, 30, 1);
    }

    /** "(whatever the index of that mirror is, also if it has none, or one that is tampered with)" */
    private static void filesOfMirrorsWithoutAGoodIndex() {
        ArchiveMirrors x = Check.archiveOf(1, 10, 20, 30);
        x.release();
        x.addMirror(1, 1, 0, NONE, 30, false);
        x.addMirror(1, 60, 1, NONE, 10, true);
        x.addMirror(1, 60, 2, NONE, 30, false);
        x.addMirror(1, 60, 1, NONE, 60, true);
        x.addClient(7);
        x.addClient(9);
        x.pass(2);
        x.removeFile(0, 0, 1);
        x.removeFile(0, 1, 1);
        x.tamper(2);
        x.tamper(3);
        Check.equal("mirror 1 has no index", x.mirror(1, 4), 0);
        Check.equal("mirror 1 has a", x.files(1, 0), 2);
        Check.equal("mirror 2 is tampered with and has b", x.files(2, 1), 2);
        x.removeFile(2, 0, 1);
        planIs("a, b and c from three mirrors", x, 0, 7, 0, 1, 7, 60, 3);
        planIs("a from the mirror without an index", x, 0, 1, 0, 1, 1, 10, 1);
        planIs("b from the one that is tampered with", x, 0, 2, 0, 1, 2, 20, 1);
        planIs("all from one that is tampered with", x, 1, 7, 0, 1, 7, 60, 1);
        Check.equal("install", x.install(0, 7), 0);
        clientIs("installed", x, 0, 7, 1, 7, 1, 1, 1);
    }

    /** "If several reasons apply, the lowest one counts." */
    private static void lowestReasonOfEachTwo() {
        ArchiveMirrors x = twoIndexes();
        x.addPackage(0, 40, 0);
        Check.equal("3 alone", x.install(0, 8), 3);
        x.removeFile(0, 0, 1);
        x.removeFile(1, 0, 1);
        Check.equal("4 alone", x.install(0, 0), 4);
        Check.equal("3 and 4", x.install(0, 8), 3);
        x.tamper(0);
        Check.equal("2 and 4", x.install(0, 0), 2);
        Check.equal("2, 3 and 4", x.install(0, 8), 2);
        x.tamper(1);
        Check.equal("1 and 4", x.install(0, 0), 1);
        Check.equal("1, 3 and 4", x.install(0, 8), 1);
        x.addClient(3);
        Check.equal("1 of a new client", x.install(1, 0), 1);
        Check.equal("1 and 3 of a new client", x.install(1, 8), 1);
        ArchiveMirrors y = twoIndexes();
        y.addPackage(0, 40, 0);
        y.tamper(0);
        Check.equal("2 alone", y.install(0, 0), 2);
        Check.equal("2 and 3", y.install(0, 8), 2);
    }

    /** A refusal is an answer, but it installs nothing and is no use of an index. */
    private static void refusedInstallChangesNothing() {
        ArchiveMirrors x = twoIndexes();
        x.publish(0);
        x.addPackage(0, 40, 0);
        x.release();
        x.pass(1);
        x.removeFile(0, 1, 1);
        x.removeFile(1, 1, 1);
        long before = x.digest();
        Check.equal("refused for a file", x.install(0, 7), 4);
        Check.equal("nothing is changed", x.digest(), before);
        clientIs("refused for a file", x, 0, 3, 2, 1, 1, 0, 0, 0);
        x.addPackage(0, 50, 0);
        before = x.digest();
        Check.equal("refused for a package", x.install(0, 17), 3);
        Check.equal("nothing is changed", x.digest(), before);
        x.tamper(0);
        before = x.digest();
        Check.equal("refused for an older index", x.install(0, 1), 2);
        Check.equal("nothing is changed", x.digest(), before);
        x.tamper(1);
        before = x.digest();
        Check.equal("refused without an index", x.install(0, 1), 1);
        Check.equal("nothing is changed", x.digest(), before);
    }

    /** "packages: the set of packages, as a bit mask (it may be empty)" */
    private static void emptySetOfANewClient() {
        ArchiveMirrors x = three();
        for (int i = 0; i < 3; i++) {
            x.removeFile(0, i, 1);
        }
        planIs("no packages are wanted", x, 0, 0, 0, 1, 0, 0, 0);
        Check.equal("until", x.until(0, 0), 0);
        Check.equal("install", x.install(0, 0), 0);
        clientIs("it has used the index", x, 0, 1, 1, 0, 0, 0, 0);
    }

    private static void emptySetOfAnOldClient() {
        ArchiveMirrors x = three();
        x.install(0, 2);
        x.publish(0);
        x.publish(2);
        x.release();
        x.pass(1);
        planIs("what is installed is wanted", x, 0, 0, 0, 2, 3, 10, 1);
        Check.equal("install", x.install(0, 0), 0);
        clientIs("what is installed is brought up", x, 0, 1, 2, 3, 2, 1, 0);
        planIs("and then nothing changes", x, 0, 0, 0, 2, 3, 0, 1);
    }

    private static void emptySetIsRefusedToo() {
        ArchiveMirrors x = twoIndexes();
        x.tamper(0);
        Check.equal("by an older index", x.install(0, 0), 2);
        x.tamper(1);
        Check.equal("without an index", x.install(0, 0), 1);
        Check.equal("client", x.client(0, 1), 2);
    }

    /** The full set of twelve packages. */
    private static void allTwelve() {
        ArchiveMirrors x = States.of(1, 12, 0, 0, 0);
        for (int i = 0; i < 12; i++) {
            for (int version = 1; version <= i; version++) {
                x.publish(i);
            }
        }
        x.release();
        x.addMirror(1, 1, 0, NONE, 200, true);
        x.addClient(1);
        x.pass(1);
        planIs("all twelve", x, 0, 4095, 0, 1, 4095, 126, 1);
        Check.equal("install", x.install(0, 4095), 0);
        clientIs("all twelve", x, 0, 1, 1, 4095, 1, 2, 3, 4, 5, 6, 7, 8, 9, 10, 11, 12);
        Check.badArgument(x, "install of a 13th", () -> x.install(0, 8191));
    }

    /** "whose installed version would change (also of those that are not installed yet)" */
    private static void changedSizes() {
        ArchiveMirrors x = three();
        planIs("none is installed yet", x, 0, 7, 0, 1, 7, 60, 1);
        x.install(0, 1);
        planIs("a does not change", x, 0, 7, 0, 1, 7, 50, 1);
        x.install(0, 7);
        planIs("none changes", x, 0, 7, 0, 1, 7, 0, 1);
        x.publish(2);
        x.release();
        x.pass(1);
        planIs("c changes", x, 0, 0, 0, 2, 7, 30, 1);
    }

    private static void changedSizeAtItsGreatest() {
        ArchiveMirrors x = new ArchiveMirrors();
        for (int i = 0; i < 12; i++) {
            x.addPackage(0, 99, 0);
        }
        x.release();
        x.addMirror(1, 1, 0, NONE, 198, true);
        x.addClient(1);
        x.pass(6);
        planIs("12 packages of 99", x, 0, 4095, 0, 1, 4095, 1188, 1);
    }

    /** Index 1, and mirrors that have these of six packages. */
    private static ArchiveMirrors mirrorsWith(int... kept) {
        ArchiveMirrors x = Check.archiveOf(1, 10, 10, 10, 10, 10, 10);
        x.release();
        for (int i = 0; i < kept.length; i++) {
            x.addMirror(1, 60, 1, NONE, 60, true);
        }
        x.pass(1);
        for (int i = 0; i < kept.length; i++) {
            for (int number = 0; number < 6; number++) {
                if ((kept[i] >> number & 1) == 0) {
                    x.removeFile(i, number, 1);
                }
            }
        }
        return x;
    }

    /** "the least number of its mirrors that together have all files of the wanted packages, 0 if .." */
    private static void fewestOfNoneToSix() {
        ArchiveMirrors x = mirrorsWith(1, 2, 4, 8, 16, 32);
        x.addClient(63);
        for (int count = 0; count <= 6; count++) {
            Check.equal("fewest of " + count, x.ifInstalled(0, (1 << count) - 1, 4), count);
            Check.equal("fewest of the last " + count, x.ifInstalled(0, 63 >> count << count, 4), 6 - count);
        }
        ArchiveMirrors y = mirrorsWith(63, 63, 63, 63, 63, 63);
        y.addClient(63);
        Check.equal("each one has all", y.ifInstalled(0, 63, 4), 1);
        Check.equal("none is needed", y.ifInstalled(0, 0, 4), 0);
    }

    /** The mirror that has the most is not always one of the fewest. */
    private static void fewestWithoutTheGreatest() {
        ArchiveMirrors x = mirrorsWith(15, 21, 42, 3, 48);
        x.addClient(7);
        x.addClient(25);
        planIs("a, c, e and b, d, f", x, 0, 63, 0, 1, 63, 60, 2);
        planIs("a, b, c, d alone", x, 0, 15, 0, 1, 15, 40, 1);
        planIs("a, b, c, d and e, f", x, 1, 63, 0, 1, 63, 60, 2);
        planIs("e, f alone", x, 1, 48, 0, 1, 48, 20, 1);
        planIs("b and e", x, 1, 18, 0, 1, 18, 20, 2);
    }

    private static void fewestLooksAtOwnMirrors() {
        ArchiveMirrors x = Check.archiveOf(1, 10, 10);
        x.release();
        for (int i = 0; i < 3; i++) {
            x.addMirror(1, 60, 1, NONE, 20, true);
        }
        x.addClient(6);
        x.addClient(2);
        x.addClient(7);
        x.pass(1);
        x.removeFile(1, 0, 1);
        x.removeFile(2, 1, 1);
        planIs("one mirror would do, but is not its own", x, 0, 3, 0, 1, 3, 20, 2);
        planIs("no mirror of its own has a", x, 1, 3, 4, 1, 3, NONE, NONE);
        planIs("one mirror of its own does", x, 2, 3, 0, 1, 3, 20, 1);
    }

    /** "2 for the wanted packages"; "(3 and 4 are NONE if it would be refused)": for each reason. */
    private static void wantedIsToldAlsoIfRefused() {
        ArchiveMirrors x = new ArchiveMirrors();
        x.addPackage(0, 10, 0);
        x.addPackage(0, 20, 1);
        x.addMirror(1, 1, 0, NONE, 10, false);
        x.addMirror(1, 60, 2, NONE, 10, false);
        x.addClient(3);
        planIs("1", x, 0, 2, 1, 0, 3, NONE, NONE);
        planIs("1, the empty set", x, 0, 0, 1, 0, 0, NONE, NONE);
        x.release();
        x.pass(2);
        planIs("4", x, 0, 2, 4, 1, 3, NONE, NONE);
        x.addPackage(0, 30, 2);
        planIs("3", x, 0, 4, 3, 1, 7, NONE, NONE);
        x.release();
        x.pass(1);
        Check.equal("index 2 is used", x.install(0, 0), 0);
        x.tamper(0);
        planIs("2", x, 0, 2, 2, 1, 3, NONE, NONE);
        planIs("2, the empty set", x, 0, 0, 2, 1, 0, NONE, NONE);
    }

    /** "Returns the least number of minutes, from 0 to 60": 0 if it could install at once. */
    private static void untilZero() {
        ArchiveMirrors x = three();
        Check.equal("at once", x.until(0, 7), 0);
        Check.equal("at once, the empty set", x.until(0, 0), 0);
        x.pass(59);
        Check.equal("at once, at just the validity", x.until(0, 7), 0);
    }

    private static void untilOneToSixty() {
        ArchiveMirrors x = Check.archiveOf(1, 10);
        x.setValidity(999);
        x.release();
        x.addMirror(1, 60, 0, NONE, 10, false);
        x.addClient(1);
        for (int due = 60; due >= 1; due--) {
            Check.equal("until", x.until(0, 1), due);
            x.pass(1);
        }
        Check.equal("until", x.until(0, 1), 0);
    }

    /** "NONE if it would be refused for 60 minutes" */
    private static void untilSixtyOne() {
        ArchiveMirrors x = Check.archiveOf(1, 10, 10);
        x.setValidity(999);
        x.release();
        x.addMirror(1, 60, 1, NONE, 10, true);
        x.addClient(1);
        Check.equal("it needs two pulls, at 1 and 61", x.until(0, 0), NONE);
        x.pass(1);
        Check.equal("at 61, which is in 60 minutes", x.until(0, 0), 60);
        x.pass(59);
        Check.equal("in a minute", x.until(0, 0), 1);
    }

    private static void untilTheIndexIsStale() {
        for (int validity = 58; validity <= 61; validity++) {
            ArchiveMirrors x = Check.archiveOf(1, 10);
            x.setValidity(validity);
            x.release();
            x.addMirror(1, 60, 59, NONE, 10, false);
            x.addClient(1);
            Check.equal("a pull after 59 minutes, validity " + validity, x.until(0, 1), validity < 59 ? NONE : 59);
        }
        ArchiveMirrors x = three();
        x.pass(60);
        Check.equal("it is stale, and no later one will come", x.until(0, 1), NONE);
        x.release();
        Check.equal("a later one comes with the next pull", x.until(0, 1), 1);
    }

    private static void untilForARefusalThatStays() {
        ArchiveMirrors x = three();
        x.addPackage(0, 40, 0);
        Check.equal("a package that is in no index", x.until(0, 8), NONE);
        x.release();
        Check.equal("a package that is in the next one", x.until(0, 8), 1);
        ArchiveMirrors y = twoIndexes();
        y.tamper(0);
        Check.equal("an older index, until the next pull", y.until(0, 1), 1);
        y.pass(1);
        y.removeFile(0, 0, 1);
        y.removeFile(1, 0, 1);
        Check.equal("a file, until the next pull", y.until(0, 1), 1);
    }

    /** "if nothing else happened. Nothing is changed." */
    private static void untilChangesNothing() {
        ArchiveMirrors x = States.full();
        long before = x.digest();
        for (int client = 0; client < 4; client++) {
            x.until(client, 4095);
            x.until(client, 0);
        }
        Check.equal("the digest after until", x.digest(), before);
        Check.equal("later answers", States.future(x).equals(States.future(States.full())) ? 1 : 0, 1);
    }

    /** "has installed all wanted packages with the versions told in the index", not those of the archive */
    private static void versionsOfTheIndexUsed() {
        ArchiveMirrors x = three();
        x.install(0, 7);
        for (int version = 2; version <= 30; version++) {
            x.publish(1);
        }
        Check.equal("without a release the old version", x.install(0, 2), 0);
        clientIs("without a release", x, 0, 1, 1, 7, 1, 1, 1);
        x.release();
        x.pass(1);
        Check.equal("with a release version 30", x.install(0, 0), 0);
        clientIs("with a release", x, 0, 1, 2, 7, 1, 30, 1);
    }
}
