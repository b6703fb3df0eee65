/** Promises 17 to 21: clients, and what they install. */
public final class ClientTest {
    private static final int NONE = ArchiveMirrors.NONE;
    private static final int[] ODD = {Integer.MIN_VALUE, -2, -1, Integer.MAX_VALUE};

    public static void main(String[] args) {
        addClient();
        install();
        installAgain();
        refusedWithoutIndex();
        refusedByStaleIndex();
        refusedByOlderIndex();
        refusedByMissingPackage();
        refusedByMissingFile();
        lowestReasonCounts();
        emptySet();
        filesOfAnyMirror();
        greatestIndexCounts();
        ifInstalled();
        ifInstalledChangesNothing();
        fewestMirrors();
        until();
        untilTheEdge();
        untilStale();
        clientProperties();
        wrongArguments();
        Check.end();
    }

    /** ifInstalled for 0 to 4. */
    private static void planIs(ArchiveMirrors x, int client, int packages, int... due) {
        for (int what = 0; what < due.length; what++) {
            Check.equal("ifInstalled(" + client + ", " + packages + ", " + what + ")",
                    x.ifInstalled(client, packages, what), due[what]);
        }
    }

    /** The client's properties from 0 on. */
    private static void clientIs(ArchiveMirrors x, int client, int... due) {
        for (int what = 0; what < due.length; what++) {
            Check.equal("client(" + client + ", " + what + ")", x.client(client, what), due[what]);
        }
    }

    /** Sizes 10, 20, 30: b depends on a, c on nothing; released, with a mirror that pulls each minute. */
    private static ArchiveMirrors threePackages() {
        ArchiveMirrors x = new ArchiveMirrors();
        x.addPackage(0, 10, 0);
        x.addPackage(0, 20, 1);
        x.addPackage(0, 30, 0);
        x.release();
        x.addMirror(1, 1, 0, NONE, 200, false);
        x.addClient(1);
        return x;
    }

    private static void addClient() {
        ArchiveMirrors x = Check.archiveOf(1, 10);
        Check.badArgument(x, "addClient(1) without mirrors", () -> x.addClient(1));
        for (int i = 0; i < 6; i++) {
            x.addMirror(1, 1, 0, NONE, 10, false);
        }
        for (int mirrors : new int[] {0, 64, 65, -1, Integer.MIN_VALUE, 1 << 30}) {
            Check.badArgument(x, "addClient(" + mirrors + ")", () -> x.addClient(mirrors));
        }
        Check.equal("addClient(63)", x.addClient(63), 0);
        Check.equal("addClient(32)", x.addClient(32), 1);
        Check.equal("addClient(1)", x.addClient(1), 2);
        Check.equal("addClient(5)", x.addClient(5), 3);
        clientIs(x, 3, 5, 0, 0, 0);
        Check.badState(x, "a 5th client", () -> x.addClient(1));
        Check.badArgument(x, "a 5th client without mirrors", () -> x.addClient(0));
        Check.badArgument(x, "a 5th client with a 7th mirror", () -> x.addClient(64));
    }

    private static void install() {
        ArchiveMirrors x = threePackages();
        x.pass(1);
        Check.equal("install(0, 2)", x.install(0, 2), 0);
        clientIs(x, 0, 1, 1, 3, 1, 1, 0);
        Check.equal("install(0, 7)", x.install(0, 7), 0);
        clientIs(x, 0, 1, 1, 7, 1, 1, 1);
    }

    private static void installAgain() {
        ArchiveMirrors x = threePackages();
        x.pass(1);
        x.install(0, 2);
        x.publish(0);
        x.publish(1);
        x.publish(1);
        x.release();
        x.pass(1);
        clientIs(x, 0, 1, 1, 3, 1, 1, 0);
        Check.equal("what is installed is brought up with the rest", x.install(0, 4), 0);
        clientIs(x, 0, 1, 2, 7, 2, 3, 1);
    }

    private static void refusedWithoutIndex() {
        ArchiveMirrors x = threePackages();
        Check.equal("no mirror has an index", x.install(0, 1), 1);
        planIs(x, 0, 2, 1, 0, 3, NONE, NONE);
        x.pass(1);
        x.tamper(0);
        Check.equal("the only index is tampered with", x.install(0, 1), 1);
        clientIs(x, 0, 1, 0, 0, 0, 0, 0);
        x.pass(1);
        Check.equal("the next pull mends it", x.install(0, 1), 0);
    }

    private static void refusedByStaleIndex() {
        ArchiveMirrors x = threePackages();
        x.pass(60);
        Check.equal("fresh for 60 minutes", x.ifInstalled(0, 1, 0), 0);
        x.pass(1);
        Check.equal("stale then", x.install(0, 1), 1);
        x.setValidity(61);
        Check.equal("fresh by a longer validity", x.install(0, 1), 0);
    }

    private static void refusedByOlderIndex() {
        ArchiveMirrors x = threePackages();
        x.addMirror(1, 60, 1, NONE, 200, false);
        x.addClient(3);
        x.pass(1);
        x.publish(2);
        x.release();
        x.pass(1);
        Check.equal("index 2 is used", x.install(1, 4), 0);
        x.tamper(0);
        Check.equal("index 1 is older than the latest", x.install(1, 0), 2);
        planIs(x, 1, 1, 2, 1, 5, NONE, NONE);
        clientIs(x, 1, 3, 2, 4, 0, 0, 2);
        x.pass(1);
        Check.equal("the same index as before will do", x.install(1, 1), 0);
    }

    private static void refusedByMissingPackage() {
        ArchiveMirrors x = threePackages();
        x.pass(1);
        x.addPackage(0, 5, 1);
        Check.equal("d is in no index", x.install(0, 8), 3);
        planIs(x, 0, 8, 3, 1, 9, NONE, NONE);
        Check.equal("without d", x.install(0, 1), 0);
        x.release();
        Check.equal("d is not in the mirror's index", x.install(0, 8), 3);
        x.pass(1);
        Check.equal("now it is", x.install(0, 8), 0);
        clientIs(x, 0, 1, 2, 9, 1, 0, 0, 1);
    }

    private static void refusedByMissingFile() {
        ArchiveMirrors x = threePackages();
        x.pass(1);
        x.removeFile(0, 0, 1);
        Check.equal("a is missing", x.install(0, 1), 4);
        Check.equal("a is missing for b", x.install(0, 2), 4);
        planIs(x, 0, 2, 4, 1, 3, NONE, NONE);
        Check.equal("c is there", x.install(0, 4), 0);
        x.removeFile(0, 2, 1);
        Check.equal("c is wanted again, though it is installed", x.install(0, 0), 4);
        clientIs(x, 0, 1, 1, 4, 0, 0, 1);
    }

    private static void lowestReasonCounts() {
        ArchiveMirrors x = threePackages();
        x.addMirror(1, 60, 1, NONE, 200, false);
        x.addClient(3);
        x.pass(1);
        x.release();
        x.pass(1);
        x.install(1, 1);
        x.addPackage(0, 5, 0);
        x.removeFile(0, 0, 1);
        x.removeFile(1, 0, 1);
        Check.equal("3 before 4", x.install(1, 8), 3);
        x.tamper(0);
        Check.equal("2 before 3 and 4", x.install(1, 8), 2);
        x.tamper(1);
        Check.equal("1 before all", x.install(1, 8), 1);
    }

    private static void emptySet() {
        ArchiveMirrors x = threePackages();
        Check.equal("also the empty set needs an index", x.install(0, 0), 1);
        x.pass(1);
        planIs(x, 0, 0, 0, 1, 0, 0, 0);
        Check.equal("the empty set", x.install(0, 0), 0);
        clientIs(x, 0, 1, 1, 0, 0, 0, 0);
    }

    private static void filesOfAnyMirror() {
        ArchiveMirrors x = threePackages();
        x.addMirror(1, 60, 1, NONE, 10, true);
        x.addMirror(1, 60, 1, NONE, 200, false);
        x.addClient(3);
        x.addClient(5);
        x.pass(1);
        x.removeFile(0, 0, 1);
        Check.equal("mirror 1 has no index", x.mirror(1, 4), 0);
        Check.equal("a comes from a mirror without an index", x.install(1, 1), 0);
        x.tamper(2);
        Check.equal("a comes from a mirror that is tampered with", x.install(2, 1), 0);
        Check.equal("it is not the client's mirror", x.install(0, 1), 4);
        x.publish(2);
        x.release();
        x.pass(1);
        x.removeFile(0, 1, 1);
        Check.equal("b comes from a mirror with an older index", x.install(2, 6), 0);
        clientIs(x, 2, 5, 2, 7, 1, 1, 2);
    }

    private static void greatestIndexCounts() {
        ArchiveMirrors x = Check.archiveOf(1, 10);
        x.addMirror(1, 60, 3, NONE, 200, false);
        x.addMirror(1, 60, 2, NONE, 200, false);
        x.addMirror(1, 60, 1, NONE, 200, false);
        x.addClient(7);
        x.addClient(6);
        for (int i = 0; i < 3; i++) {
            x.release();
            x.pass(1);
        }
        Check.equal("the greatest of 3, 2, 1", x.ifInstalled(0, 1, 1), 3);
        Check.equal("the greatest of 2, 1", x.ifInstalled(1, 1, 1), 2);
        x.tamper(0);
        Check.equal("3 is tampered with", x.ifInstalled(0, 1, 1), 2);
        x.setValidity(2);
        Check.equal("2 is fresh", x.ifInstalled(0, 1, 1), 2);
        x.setValidity(1);
        Check.equal("no other is fresh", x.ifInstalled(0, 1, 1), 0);
    }

    private static void ifInstalled() {
        ArchiveMirrors x = threePackages();
        x.pass(1);
        planIs(x, 0, 2, 0, 1, 3, 30, 1);
        planIs(x, 0, 4, 0, 1, 4, 30, 1);
        planIs(x, 0, 6, 0, 1, 7, 60, 1);
        x.install(0, 1);
        planIs(x, 0, 1, 0, 1, 1, 0, 1);
        planIs(x, 0, 2, 0, 1, 3, 20, 1);
        x.publish(0);
        x.release();
        x.pass(1);
        planIs(x, 0, 0, 0, 2, 1, 10, 1);
        planIs(x, 0, 2, 0, 2, 3, 30, 1);
        planIs(x, 0, 4, 0, 2, 5, 40, 1);
    }

    private static void ifInstalledChangesNothing() {
        ArchiveMirrors x = threePackages();
        x.pass(1);
        long before = x.digest();
        for (int what = 0; what < 5; what++) {
            x.ifInstalled(0, 7, what);
        }
        x.until(0, 7);
        Check.equal("nothing is changed", x.digest(), before);
        clientIs(x, 0, 1, 0, 0, 0, 0, 0);
        Check.equal("the time stays", x.count(5), 1);
    }

    private static void fewestMirrors() {
        ArchiveMirrors x = Check.archiveOf(1, 10, 10, 10, 10);
        x.release();
        for (int i = 0; i < 5; i++) {
            x.addMirror(1, 60, 1, NONE, 200, false);
        }
        x.addClient(31);
        x.addClient(7);
        x.addClient(15);
        x.pass(1);
        keepFiles(x, 0, 3);
        keepFiles(x, 1, 6);
        keepFiles(x, 2, 8);
        keepFiles(x, 3, 12);
        keepFiles(x, 4, 15);
        planIs(x, 0, 15, 0, 1, 15, 40, 1);
        planIs(x, 1, 15, 0, 1, 15, 40, 3);
        planIs(x, 2, 15, 0, 1, 15, 40, 2);
        planIs(x, 1, 3, 0, 1, 3, 20, 1);
        planIs(x, 1, 5, 0, 1, 5, 20, 2);
        planIs(x, 1, 0, 0, 1, 0, 0, 0);
    }

    private static void keepFiles(ArchiveMirrors x, int mirror, int kept) {
        for (int pack = 0; pack < 4; pack++) {
            if ((kept >> pack & 1) == 0) {
                x.removeFile(mirror, pack, 1);
            }
        }
    }

    private static void until() {
        ArchiveMirrors x = Check.archiveOf(1, 50, 50, 50);
        x.release();
        x.addMirror(1, 5, 2, NONE, 50, true);
        x.addMirror(1, 10, 3, 0, 200, true);
        x.addClient(1);
        x.addClient(2);
        Check.equal("three pulls until mirror 0 has its index", x.until(0, 0), 12);
        Check.equal("the same with packages", x.until(0, 7), 12);
        Check.equal("mirror 1 is behind it", x.until(1, 7), 13);
        x.pass(11);
        Check.equal("one minute is left", x.until(0, 7), 1);
        x.pass(1);
        Check.equal("no minute is left", x.until(0, 7), 0);
        x.tamper(0);
        Check.equal("until it pulls again", x.until(0, 7), 5);
        Check.equal("and mirror 1 behind it", x.until(1, 7), 11);
        Check.equal("copied files are not counted", x.count(9), 3);
        Check.equal("a package that is in no index", x.addPackage(0, 1, 0), 3);
        Check.equal("never", x.until(0, 8), NONE);
    }

    private static void untilTheEdge() {
        ArchiveMirrors x = Check.archiveOf(1, 50);
        x.addMirror(1, 60, 0, NONE, 50, false);
        x.addMirror(1, 60, 1, 0, 50, false);
        x.addClient(1);
        x.addClient(2);
        Check.equal("without an index", x.until(0, 0), NONE);
        x.release();
        x.setValidity(999);
        Check.equal("60 minutes", x.until(0, 1), 60);
        Check.equal("61 minutes are too many", x.until(1, 1), NONE);
        x.pass(1);
        Check.equal("59 minutes", x.until(0, 1), 59);
        Check.equal("60 minutes now", x.until(1, 1), 60);
        x.setValidity(60);
        Check.equal("the index is fresh at 60", x.until(0, 1), 59);
        Check.equal("and stale at 61", x.until(1, 1), NONE);
    }

    private static void untilStale() {
        ArchiveMirrors x = Check.archiveOf(1, 50);
        x.release();
        x.setValidity(3);
        x.addMirror(1, 10, 4, NONE, 50, false);
        x.addClient(1);
        Check.equal("stale before it is pulled", x.until(0, 1), NONE);
        x.setValidity(4);
        Check.equal("fresh when it is pulled", x.until(0, 1), 4);
    }

    private static void clientProperties() {
        ArchiveMirrors x = threePackages();
        x.pass(1);
        x.publish(2);
        x.release();
        x.pass(1);
        x.install(0, 6);
        clientIs(x, 0, 1, 2, 7, 1, 1, 2);
        for (int what : new int[] {-1, 6, Integer.MIN_VALUE, Integer.MAX_VALUE}) {
            Check.badArgument(x, "client(0, " + what + ")", () -> x.client(0, what));
        }
        x.addPackage(0, 1, 0);
        Check.equal("a new package is not installed", x.client(0, 6), 0);
        for (int client : ODD) {
            Check.outOfBounds(x, "client(" + client + ", 0)", () -> x.client(client, 0));
        }
        Check.outOfBounds(x, "client(1, -1)", () -> x.client(1, -1));
    }

    private static void wrongArguments() {
        ArchiveMirrors x = threePackages();
        x.pass(1);
        for (int client : new int[] {1, -1, Integer.MIN_VALUE, Integer.MAX_VALUE}) {
            Check.outOfBounds(x, "install(" + client + ", -1)", () -> x.install(client, -1));
            Check.outOfBounds(x, "install(" + client + ", 1)", () -> x.install(client, 1));
            Check.outOfBounds(x, "ifInstalled(" + client + ", -1, 5)", () -> x.ifInstalled(client, -1, 5));
            Check.outOfBounds(x, "ifInstalled(" + client + ", 1, 0)", () -> x.ifInstalled(client, 1, 0));
            Check.outOfBounds(x, "until(" + client + ", -1)", () -> x.until(client, -1));
            Check.outOfBounds(x, "until(" + client + ", 1)", () -> x.until(client, 1));
        }
        for (int set : new int[] {8, 9, -1, Integer.MIN_VALUE, 1 << 30}) {
            Check.badArgument(x, "install(0, " + set + ")", () -> x.install(0, set));
            Check.badArgument(x, "ifInstalled(0, " + set + ", 0)", () -> x.ifInstalled(0, set, 0));
            Check.badArgument(x, "until(0, " + set + ")", () -> x.until(0, set));
        }
        for (int what : new int[] {-1, 5, Integer.MIN_VALUE, Integer.MAX_VALUE}) {
            Check.badArgument(x, "ifInstalled(0, 1, " + what + ")", () -> x.ifInstalled(0, 1, what));
        }
        Check.equal("install(0, 7) still works", x.install(0, 7), 0);
    }
}
