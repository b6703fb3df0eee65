/**
 * Sentences that have another reading near them: each test tells the two apart by a run in which they
 * answer otherwise. Above each test stands the sentence, and what it does not say.
 */
public final class ReadingsTest {
    private static final int NONE = ArchiveMirrors.NONE;

    public static void main(String[] args) {
        upstreamOffersAnOlderIndex();
        upstreamHasAnotherVersion();
        upstreamsUpstreamIsNotAsked();
        upstreamMayBeStaleAndIncomplete();
        filesStayByTheIndexThatWasTaken();
        filesOfAllVersionsCount();
        removedFilesAreCopiedAgain();
        removeFileOfAnyVersion();
        fileOfAMirrorWithoutAnIndexCounts();
        greatestIndexIsNotTheFirst();
        fileOfAMirrorWithAStaleIndex();
        untilGoesOnThroughEachReason();
        untilWaitsForTheFirstMoment();
        objectsAreApart();
        Check.end();
    }

    private static void filesAre(String where, ArchiveMirrors x, int mirror, int... due) {
        for (int number = 0; number < due.length; number++) {
            Check.equal(where + ": files(" + mirror + ", " + number + ")", x.files(mirror, number), due[number]);
        }
    }

    /** Mirror 0 pulls once an hour and has index 1; mirror 1 is below it; the archive has index 2. */
    private static ArchiveMirrors behindTheArchive(boolean careful) {
        ArchiveMirrors x = Check.archiveOf(1, 10, 20);
        x.release();
        x.addMirror(1, 60, 1, NONE, 200, false);
        x.addMirror(1, 1, 0, 0, 20, careful);
        x.pass(1);
        x.publish(1);
        x.release();
        return x;
    }

    /** "The index that is offered is .. the index of the upstream mirror", not the latest of the archive. */
    private static void upstreamOffersAnOlderIndex() {
        for (boolean careful : new boolean[] {false, true}) {
            ArchiveMirrors x = behindTheArchive(careful);
            x.pass(58);
            Check.equal("the index of the upstream, careful " + careful, x.mirror(1, 4), 1);
            filesAre("the files of the upstream, careful " + careful, x, 1, 2, 2);
            Check.equal("one is later, careful " + careful, x.mirror(1, 9), 1);
            x.pass(2);
            Check.equal("the next index of the upstream, careful " + careful, x.mirror(1, 4), 2);
        }
        ArchiveMirrors y = Check.archiveOf(1, 10);
        y.release();
        y.addMirror(1, 60, 1, NONE, 200, false);
        y.addMirror(1, 1, 0, 0, 20, false);
        y.pass(1);
        y.release();
        y.pass(1);
        Check.equal("also where both have the same files", y.mirror(1, 4), 1);
    }

    /** "it is copied if the upstream has it": the file of this version, not any file of the package. */
    private static void upstreamHasAnotherVersion() {
        ArchiveMirrors x = Check.archiveOf(1, 10, 20, 20);
        x.release();
        x.addMirror(1, 1, 0, NONE, 20, true);
        x.pass(3);
        Check.equal("index 1", x.mirror(0, 4), 1);
        for (int i = 0; i < 3; i++) {
            x.publish(i);
        }
        x.release();
        x.addMirror(1, 1, 0, 0, 200, false);
        x.removeFile(0, 0, 1);
        Check.equal("a:2 from the archive, b:1 and c:1 from the upstream", x.pass(1), 3);
        filesAre("the upstream has a:2 and not a:1", x, 0, 4, 2, 2);
        filesAre("so a:1 is left out, and a:2 is not wanted", x, 1, 0, 2, 2);
    }

    /** "if the upstream has it": neither the archive nor a mirror above the upstream is asked instead. */
    private static void upstreamsUpstreamIsNotAsked() {
        ArchiveMirrors x = Check.archiveOf(1, 10);
        x.release();
        x.addMirror(1, 60, 1, NONE, 10, false);
        x.addMirror(1, 60, 1, 0, 10, false);
        x.addMirror(1, 1, 0, 1, 10, false);
        x.addMirror(1, 1, 0, 1, 10, true);
        x.pass(1);
        x.removeFile(1, 0, 1);
        x.removeFile(2, 0, 1);
        x.removeFile(3, 0, 1);
        Check.equal("mirror 0 has the file, but mirror 1 does not", x.pass(58), 0);
        Check.equal("each copies it when its upstream has it", x.pass(2), 3);
    }

    /** "If there is none, or if that of the upstream mirror is tampered with, nothing happens. Otherwise ..": always. */
    private static void upstreamMayBeStaleAndIncomplete() {
        ArchiveMirrors x = Check.archiveOf(1, 10, 20);
        x.release();
        x.setValidity(1);
        x.addMirror(1, 60, 30, NONE, 10, false);
        x.addMirror(1, 60, 31, 0, 200, false);
        x.addMirror(1, 60, 31, 0, 200, true);
        Check.equal("each copies a", x.pass(31), 3);
        Check.equal("the upstream is not complete", x.mirror(0, 10), 0);
        Check.equal("and its index is stale", x.index(1, 3), 0);
        Check.equal("a careless mirror takes the index", x.mirror(1, 4), 1);
        Check.equal("a careful one lacks b", x.mirror(2, 4), 0);
        filesAre("but it has a", x, 2, 2, 0);
    }

    /** "those of the packages and versions of this index": of the one that was taken, not of a later one. */
    private static void filesStayByTheIndexThatWasTaken() {
        ArchiveMirrors x = behindTheArchive(false);
        x.addMirror(1, 60, 2, 0, 200, false);
        x.addMirror(1, 60, 2, 0, 200, true);
        Check.equal("two mirrors copy two files, and mirror 1 copies b", x.pass(1), 5);
        for (int mirror = 2; mirror <= 3; mirror++) {
            Check.equal("index 1 is taken", x.mirror(mirror, 4), 1);
            filesAre("its files stay", x, mirror, 2, 2);
        }
    }

    /** "7 for the number of files that it has": of whatever version, also those that are not of its index. */
    private static void filesOfAllVersionsCount() {
        ArchiveMirrors x = Check.archiveOf(1, 10, 20);
        x.release();
        x.addMirror(1, 1, 0, NONE, 20, true);
        x.pass(2);
        x.publish(0);
        x.publish(1);
        x.release();
        x.pass(1);
        Check.equal("the index is still the old one", x.mirror(0, 4), 1);
        Check.equal("two files of it and one of the new one", x.mirror(0, 7), 3);
        Check.equal("all files", x.count(8), 3);
        Check.equal("as versions", x.files(0, 0), 6);
    }

    /** "For each of them that the mirror does not have": also one that it had, for the index that it has. */
    private static void removedFilesAreCopiedAgain() {
        for (boolean careful : new boolean[] {false, true}) {
            ArchiveMirrors x = behindTheArchive(careful);
            x.pass(2);
            filesAre("both files, careful " + careful, x, 1, 2, 2);
            x.removeFile(1, 0, 1);
            Check.equal("one is copied again, careful " + careful, x.pass(1), 1);
            x.removeFile(1, 0, 1);
            x.removeFile(1, 1, 1);
            Check.equal("as much as the capacity allows, careful " + careful, x.pass(1), 1);
            Check.equal("and the other one then, careful " + careful, x.pass(1), 1);
            Check.equal("its index is the same all the time, careful " + careful, x.mirror(1, 4), 1);
        }
    }

    /** "if the mirror does not have this file": a file that is not of its index is a file too. */
    private static void removeFileOfAnyVersion() {
        ArchiveMirrors x = Check.archiveOf(1, 10, 20);
        x.release();
        x.addMirror(1, 1, 0, NONE, 20, true);
        x.pass(1);
        Check.equal("of a mirror without an index", x.removeFile(0, 0, 1), 0);
        x.pass(2);
        x.publish(0);
        x.publish(1);
        x.release();
        x.pass(1);
        filesAre("index 1, and a part of index 2", x, 0, 6, 2);
        Check.equal("of a version that its index does not tell", x.removeFile(0, 0, 2), 2);
        Check.equal("of the version that its index tells", x.removeFile(0, 0, 1), 1);
        x.tamper(0);
        Check.equal("of a mirror that is tampered with", x.removeFile(0, 1, 1), 0);
    }

    /** "5 for the number of mirrors that have the file of its version": also of one without an index. */
    private static void fileOfAMirrorWithoutAnIndexCounts() {
        ArchiveMirrors x = Check.archiveOf(1, 10, 20);
        x.release();
        x.addMirror(1, 60, 1, NONE, 10, true);
        x.pass(1);
        Check.equal("it has no index", x.mirror(0, 4), 0);
        Check.equal("but a", x.packageAt(0, 5), 1);
        Check.equal("not b", x.packageAt(1, 5), 0);
        Check.equal("among all files", x.count(8), 1);
    }

    /** "its index is the one with the greatest number": wherever it stands among the mirrors. */
    private static void greatestIndexIsNotTheFirst() {
        for (int greatest = 0; greatest < 3; greatest++) {
            ArchiveMirrors x = Check.archiveOf(1, 10);
            for (int i = 0; i < 3; i++) {
                x.addMirror(1, 60, i == greatest ? 2 : 1, NONE, 10, false);
            }
            x.addClient(7);
            x.release();
            x.pass(1);
            x.release();
            x.pass(1);
            Check.equal("the greatest is at mirror " + greatest, x.mirror(greatest, 4), 2);
            Check.equal("it is the client's", x.ifInstalled(0, 1, 1), 2);
            Check.equal("and is used", x.install(0, 1), 0);
            Check.equal("and remembered", x.client(0, 1), 2);
        }
    }

    /** "(whatever the index of that mirror is ..)": also one that is not fresh. */
    private static void fileOfAMirrorWithAStaleIndex() {
        ArchiveMirrors x = Check.archiveOf(1, 10, 20);
        x.release();
        x.addMirror(1, 60, 1, NONE, 200, false);
        x.addMirror(1, 60, 5, NONE, 10, false);
        x.addClient(3);
        x.setValidity(1);
        x.pass(4);
        x.release();
        x.pass(1);
        Check.equal("index 1 is stale", x.index(1, 3), 0);
        Check.equal("b is only at the mirror with index 1", x.files(1, 1), 0);
        Check.equal("index 2 is the client's", x.ifInstalled(0, 2, 1), 2);
        Check.equal("b comes from there", x.install(0, 2), 0);
        Check.equal("with the version of index 2", x.client(0, 4), 1);
    }

    /** "how many minutes must pass until a client could install": whatever it is refused for before. */
    private static void untilGoesOnThroughEachReason() {
        ArchiveMirrors x = Check.archiveOf(1, 10, 20, 30);
        x.release();
        x.addMirror(1, 3, 0, NONE, 30, false);
        x.addClient(1);
        int[] due = {1, 1, 1, 4, 4, 4, 0};
        Check.equal("reason 1 for 3 minutes, then reason 4 for 3", x.until(0, 4), 6);
        for (int time = 0; time < due.length; time++) {
            Check.equal("reason at " + time, x.ifInstalled(0, 4, 0), due[time]);
            Check.equal("until at " + time, x.until(0, 4), 6 - time);
            x.pass(1);
        }
        x.install(0, 0);
        x.addPackage(0, 25, 0);
        x.publish(0);
        x.release();
        Check.equal("reason 3", x.ifInstalled(0, 8, 0), 3);
        Check.equal("reason 3 for 2 minutes, then reason 4 for 3", x.until(0, 8), 5);
        x.pass(2);
        Check.equal("reason 4", x.ifInstalled(0, 8, 0), 4);
        Check.equal("reason 4 for 3 minutes", x.until(0, 8), 3);
    }

    /** "Returns the least number of minutes": later it may be refused again. */
    private static void untilWaitsForTheFirstMoment() {
        ArchiveMirrors x = Check.archiveOf(1, 10);
        x.release();
        x.setValidity(7);
        x.addMirror(1, 60, 7, NONE, 10, false);
        x.addClient(1);
        for (int time = 0; time <= 7; time++) {
            Check.equal("fresh for a moment, at " + time, x.until(0, 1), 7 - time);
            x.pass(1);
        }
        Check.equal("and never again", x.until(0, 1), NONE);
    }

    /** What one object is told, another does not know. */
    private static void objectsAreApart() {
        ArchiveMirrors x = States.some();
        long before = x.digest();
        ArchiveMirrors y = States.full();
        y.begin(1);
        y.clearInput();
        y.setValidity(5);
        y.pass(200);
        Check.equal("the other one is as it was", x.digest(), before);
        String due = States.future(States.some());
        Check.equal("and goes on as if it were alone", States.future(x).equals(due) ? 1 : 0, 1);
    }
}
