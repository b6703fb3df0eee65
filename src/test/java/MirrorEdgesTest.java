/**
 * The boundary cases of the mirrors: promises 11 to 16, and "Mirrors" in the description.
 * Above each test stands the sentence of the document that it holds to.
 */
public final class MirrorEdgesTest {
    private static final int NONE = ArchiveMirrors.NONE;

    public static void main(String[] args) {
        sixMirrors();
        lastMirrorIsLikeTheFirst();
        upstreamHasALowerNumber();
        noIndexAndNoFilesAtFirst();
        timeIsZeroAtFirst();
        timeIncreasesBeforeThePull();
        pullsAtItsOffset();
        pullsInAscendingOrder();
        minutesToTheNextPull();
        passOfTheMostMinutes();
        passIsTheSumOfItsMinutes();
        archiveWithoutAnIndex();
        upstreamWithoutAnIndex();
        upstreamTamperedWith();
        ownTamperingDoesNotHinder();
        latestIndexIsOffered();
        upstreamOffersItsOwnIndex();
        carelessTakesTheIndexFirst();
        capacityAtJustTheSize();
        capacityThatIsLeft();
        capacityAtItsLimits();
        capacityIsWholeAtEachPull();
        capacityIsNotUsedByFilesThatAreThere();
        capacityIsNotUsedByFilesLeftOut();
        tooLargeIsLeftOutForEver();
        ascendingOrderOfThePackages();
        onlyCarriedSections();
        nothingWanted();
        carefulWithAllButOne();
        carefulCountsFilesNotCopies();
        carefulKeepsATamperedIndex();
        anotherIndexRemovesOldFiles();
        anotherIndexKeepsSameVersions();
        sameIndexKeepsFiles();
        firstIndexIsAnother();
        severalIndexesAtOnce();
        completeOrNot();
        completeAtAnOldIndex();
        missingFiles();
        tamperAgain();
        tamperWithoutAnIndex();
        removeTheLastFile();
        removeFileOfAnotherVersion();
        filesWithSeveralVersions();
        laterIndexes();
        Check.end();
    }

    private static void mirrorIs(String where, ArchiveMirrors x, int mirror, int... due) {
        for (int what = 0; what < due.length; what++) {
            Check.equal(where + ": mirror(" + mirror + ", " + what + ")", x.mirror(mirror, what), due[what]);
        }
    }

    /** The files that a mirror has, of each package. */
    private static void filesAre(String where, ArchiveMirrors x, int mirror, int... due) {
        for (int number = 0; number < due.length; number++) {
            Check.equal(where + ": files(" + mirror + ", " + number + ")", x.files(mirror, number), due[number]);
        }
    }

    /** A mirror of section 0 that pulls from the archive each minute. */
    private static int add(ArchiveMirrors x, int capacity, boolean careful) {
        return x.addMirror(1, 1, 0, NONE, capacity, careful);
    }

    /** "There are at most 6 mirrors, numbered from 0 in the order in which they were added." */
    private static void sixMirrors() {
        ArchiveMirrors x = new ArchiveMirrors();
        for (int i = 0; i < 6; i++) {
            Check.equal("mirror", x.addMirror(1, 10 + i, i, i - 1, 1 + i, i % 2 == 0), i);
            Check.equal("mirrors", x.count(3), i + 1);
        }
        Check.badState(x, "a 7th mirror", () -> add(x, 1, true));
        Check.badState(x, "a 7th mirror below the 6th", () -> x.addMirror(1, 1, 0, 5, 1, true));
        Check.equal("mirrors", x.count(3), 6);
        for (int i = 0; i < 6; i++) {
            mirrorIs("six mirrors", x, i, 1, 10 + i, i, i - 1);
        }
    }

    /** The 6th mirror, with the number 5, in each call that takes a mirror. */
    private static void lastMirrorIsLikeTheFirst() {
        ArchiveMirrors x = Check.archiveOf(1, 10);
        for (int i = 0; i < 6; i++) {
            x.addMirror(1, 1, 0, i - 1, 10, true);
        }
        x.addClient(32);
        x.release();
        Check.equal("all copy", x.pass(1), 6);
        Check.equal("install from the last", x.install(0, 1), 0);
        Check.equal("tamper with the last", x.tamper(5), 1);
        Check.equal("files of the last", x.files(5, 0), 2);
        Check.equal("removeFile from the last", x.removeFile(5, 0, 1), 0);
        mirrorIs("the last", x, 5, 1, 1, 0, 4, 1, 1, 1, 0, 1, 0, 0);
    }

    /** "an upstream, which is the archive or a mirror with a lower number" */
    private static void upstreamHasALowerNumber() {
        ArchiveMirrors x = new ArchiveMirrors();
        Check.outOfBounds(x, "the first below itself", () -> x.addMirror(1, 1, 0, 0, 1, true));
        Check.equal("the first below the archive", x.addMirror(1, 1, 0, NONE, 1, true), 0);
        Check.outOfBounds(x, "the second below itself", () -> x.addMirror(1, 1, 0, 1, 1, true));
        Check.outOfBounds(x, "the second below -2", () -> x.addMirror(1, 1, 0, -2, 1, true));
        Check.equal("the second below the first", x.addMirror(1, 1, 0, 0, 1, true), 1);
        Check.equal("the upstream of the first", x.mirror(0, 3), -1);
        Check.equal("the upstream of the second", x.mirror(1, 3), 0);
    }

    /** "At first it has no index and no files." */
    private static void noIndexAndNoFilesAtFirst() {
        ArchiveMirrors x = Check.archiveOf(1, 10);
        x.release();
        add(x, 10, false);
        x.pass(1);
        x.addMirror(1, 5, 3, 0, 10, false);
        mirrorIs("at first", x, 1, 1, 5, 3, 0, 0, 0, 0, 0, 2, 1, 0);
        filesAre("at first", x, 1, 0);
    }

    /** "The time is 0 at first."; nothing is pulled at the time 0, when a mirror is added. */
    private static void timeIsZeroAtFirst() {
        ArchiveMirrors x = Check.archiveOf(1, 10);
        x.release();
        x.addMirror(1, 60, 0, NONE, 10, false);
        Check.equal("the time", x.count(5), 0);
        Check.equal("no pull at 0", x.mirror(0, 4), 0);
        Check.equal("none until 59", x.pass(59), 0);
        Check.equal("one at 60", x.pass(1), 1);
    }

    /** "the time increases by 1, and then each mirror .. pulls if the time mod its interval .." */
    private static void timeIncreasesBeforeThePull() {
        ArchiveMirrors x = Check.archiveOf(1, 10);
        x.release();
        x.addMirror(1, 60, 1, NONE, 10, false);
        x.addMirror(1, 60, 2, NONE, 10, false);
        Check.equal("the pull of time 1", x.pass(1), 1);
        Check.equal("is that of mirror 0", x.mirror(0, 4), 1);
        Check.equal("the pull of time 2", x.pass(1), 1);
    }

    /** "if the time mod its interval is equal to its offset": the least and the greatest of both. */
    private static void pullsAtItsOffset() {
        int[][] some = {{1, 0}, {2, 0}, {2, 1}, {7, 6}, {59, 58}, {60, 0}, {60, 1}, {60, 59}};
        for (int[] times : some) {
            ArchiveMirrors x = Check.archiveOf(1, 10);
            x.release();
            x.addMirror(1, times[0], times[1], NONE, 10, false);
            for (int time = 1; time <= 121; time++) {
                boolean due = time % times[0] == times[1];
                String where = "interval " + times[0] + ", offset " + times[1] + ", time " + time;
                Check.equal(where, x.pass(1), due ? 1 : 0);
                if (due) {
                    x.removeFile(0, 0, 1);
                }
            }
        }
    }

    /** "each mirror, in ascending order" */
    private static void pullsInAscendingOrder() {
        ArchiveMirrors x = Check.archiveOf(1, 10);
        x.release();
        for (int i = 0; i < 6; i++) {
            x.addMirror(1, 1, 0, i - 1, 10, true);
        }
        Check.equal("a chain of six in one minute", x.pass(1), 6);
        for (int i = 0; i < 6; i++) {
            Check.equal("index of " + i, x.mirror(i, 4), 1);
        }
        x.release();
        x.tamper(2);
        x.pass(1);
        Check.equal("what is tampered with has pulled before the next one", x.mirror(5, 4), 2);
    }

    /** "the number of minutes until it pulls next, at least 1" */
    private static void minutesToTheNextPull() {
        int[][] some = {{1, 0}, {2, 0}, {2, 1}, {60, 0}, {60, 59}};
        for (int[] times : some) {
            ArchiveMirrors x = new ArchiveMirrors();
            x.addMirror(1, times[0], times[1], NONE, 10, false);
            for (int time = 0; time <= 121; time++) {
                int due = 1;
                while ((time + due) % times[0] != times[1]) {
                    due++;
                }
                Check.equal("minutes to a pull, interval " + times[0] + ", time " + time, x.mirror(0, 8), due);
                x.pass(1);
            }
        }
        ArchiveMirrors x = new ArchiveMirrors();
        x.addMirror(1, 60, 0, NONE, 10, false);
        Check.equal("60 at the time of a pull", x.mirror(0, 8), 60);
    }

    /** "minutes: 1 to 200" */
    private static void passOfTheMostMinutes() {
        ArchiveMirrors x = Check.archiveOf(1, 1);
        x.release();
        add(x, 1, false);
        x.addMirror(1, 60, 20, NONE, 1, false);
        Check.equal("pass(200)", x.pass(200), 2);
        Check.equal("the time", x.count(5), 200);
        Check.badArgument(x, "pass(201)", () -> x.pass(201));
        Check.badArgument(x, "pass(0)", () -> x.pass(0));
        Check.equal("the time", x.count(5), 200);
        for (int i = 0; i < 300; i++) {
            x.pass(200);
        }
        Check.equal("the time far on", x.count(5), 60200);
        Check.equal("minutes to a pull far on", x.mirror(1, 8), 60);
        Check.equal("the age far on", x.meanAge(), 60200.0);
    }

    private static void passIsTheSumOfItsMinutes() {
        ArchiveMirrors x = States.of(3, 12, 3, 6, 4);
        ArchiveMirrors y = States.of(3, 12, 3, 6, 4);
        x.publish(11);
        y.publish(11);
        x.release();
        y.release();
        int sum = 0;
        for (int i = 0; i < 70; i++) {
            sum += y.pass(1);
        }
        Check.equal("files in 70 minutes", x.pass(70), sum);
        Check.equal("the same state", x.digest(), y.digest());
    }

    /** "If there is none, .. nothing happens." */
    private static void archiveWithoutAnIndex() {
        ArchiveMirrors x = Check.archiveOf(1, 10);
        add(x, 10, false);
        add(x, 10, true);
        Check.equal("nothing is copied", x.pass(200), 0);
        mirrorIs("careless", x, 0, 1, 1, 0, NONE, 0, 0, 0, 0, 1, 0, 0);
        mirrorIs("careful", x, 1, 1, 1, 0, NONE, 0, 0, 0, 0, 1, 0, 0);
    }

    private static void upstreamWithoutAnIndex() {
        ArchiveMirrors x = Check.archiveOf(1, 10, 20);
        x.release();
        add(x, 10, true);
        x.addMirror(1, 1, 0, 0, 200, false);
        x.addMirror(1, 1, 0, 0, 200, true);
        Check.equal("only the first copies", x.pass(3), 1);
        Check.equal("it has no index", x.mirror(0, 4), 0);
        Check.equal("it has a file", x.mirror(0, 7), 1);
        for (int i = 1; i <= 2; i++) {
            mirrorIs("below it", x, i, 1, 1, 0, 0, 0, 0, 0, 0, 1, 1, 0);
        }
    }

    /** "or if that of the upstream mirror is tampered with, nothing happens" */
    private static void upstreamTamperedWith() {
        ArchiveMirrors x = Check.archiveOf(1, 10, 20);
        x.release();
        x.addMirror(1, 60, 1, NONE, 200, false);
        x.addMirror(1, 1, 0, 0, 10, false);
        x.addMirror(1, 1, 0, 0, 10, true);
        x.pass(1);
        x.tamper(0);
        long before = x.mirror(1, 7) + x.mirror(2, 7);
        Check.equal("nothing is copied", x.pass(58), 0);
        Check.equal("no file comes or goes", x.mirror(1, 7) + x.mirror(2, 7), before);
        Check.equal("a careless mirror keeps its index", x.mirror(1, 4), 1);
        Check.equal("a careful mirror takes none", x.mirror(2, 4), 0);
        x.tamper(1);
        x.pass(1);
        Check.equal("its own stays tampered with", x.mirror(1, 5), 1);
        x.pass(1);
        Check.equal("until the upstream has pulled itself", x.mirror(1, 5), 0);
    }

    /** Only the index of the upstream hinders a pull, not the mirror's own. */
    private static void ownTamperingDoesNotHinder() {
        ArchiveMirrors x = Check.archiveOf(1, 10);
        x.release();
        add(x, 10, false);
        add(x, 10, true);
        x.pass(1);
        x.tamper(0);
        x.tamper(1);
        x.pass(1);
        Check.equal("careless, with the right signature", x.mirror(0, 5), 0);
        Check.equal("careful, with the right signature", x.mirror(1, 5), 0);
    }

    /** "The index that is offered is the latest index of the archive" */
    private static void latestIndexIsOffered() {
        ArchiveMirrors x = Check.archiveOf(1, 10);
        add(x, 10, true);
        for (int i = 1; i <= 20; i++) {
            x.release();
        }
        x.pass(1);
        Check.equal("index 20 of 20", x.mirror(0, 4), 20);
    }

    /** "or the index of the upstream mirror", though the archive has a later one */
    private static void upstreamOffersItsOwnIndex() {
        ArchiveMirrors x = Check.archiveOf(1, 10);
        x.release();
        x.addMirror(1, 60, 1, NONE, 10, false);
        x.addMirror(1, 1, 0, 0, 10, true);
        x.pass(1);
        x.publish(0);
        x.release();
        x.pass(59);
        Check.equal("the index of the upstream", x.mirror(1, 4), 1);
        filesAre("the files of the upstream", x, 1, 2);
        Check.equal("both copy the new file", x.pass(1), 2);
        Check.equal("the new index of the upstream", x.mirror(1, 4), 2);
        filesAre("the new files of the upstream", x, 1, 4);
    }

    /** "A mirror that is not careful takes the index": also if no file can be copied. */
    private static void carelessTakesTheIndexFirst() {
        ArchiveMirrors x = Check.archiveOf(1, 10, 20);
        x.release();
        add(x, 9, false);
        Check.equal("no file", x.pass(1), 0);
        mirrorIs("careless", x, 0, 1, 1, 0, NONE, 1, 0, 2, 0, 1, 0, 0);
        add(x, 9, true);
        Check.equal("no file", x.pass(1), 0);
        mirrorIs("careful", x, 1, 1, 1, 0, NONE, 0, 0, 0, 0, 1, 1, 0);
    }

    /** "its size is at most what is left of the capacity" */
    private static void capacityAtJustTheSize() {
        for (int capacity = 49; capacity <= 51; capacity++) {
            ArchiveMirrors x = Check.archiveOf(1, 50);
            x.release();
            add(x, capacity, false);
            Check.equal("size 50, capacity " + capacity, x.pass(1), capacity < 50 ? 0 : 1);
        }
    }

    /** "which then decreases by the size" */
    private static void capacityThatIsLeft() {
        for (int capacity = 58; capacity <= 62; capacity++) {
            ArchiveMirrors x = Check.archiveOf(1, 30, 30, 1);
            x.release();
            add(x, capacity, false);
            Check.equal("sizes 30, 30, 1, capacity " + capacity, x.pass(1), capacity < 61 ? 2 : 3);
            filesAre("capacity " + capacity, x, 0, 2, capacity < 60 ? 0 : 2, capacity == 60 ? 0 : 2);
        }
    }

    /** "capacity: 1 to 200" */
    private static void capacityAtItsLimits() {
        ArchiveMirrors x = Check.archiveOf(1, 1, 1, 99, 99);
        x.release();
        add(x, 1, false);
        Check.equal("one file of size 1", x.pass(1), 1);
        Check.equal("and another", x.pass(1), 1);
        Check.equal("but none of 99", x.pass(1), 0);
        add(x, 200, true);
        Check.equal("sizes 1, 1, 99, 99 are just 200", x.pass(1), 4);
        ArchiveMirrors y = Check.archiveOf(1, 1, 2, 99, 99);
        y.release();
        add(y, 200, true);
        Check.equal("sizes 1, 2, 99, 99 are one more", y.pass(1), 3);
        filesAre("the last one is left out", y, 0, 2, 2, 2, 0);
    }

    /** "(At the beginning of a pull all of the capacity is left.)" */
    private static void capacityIsWholeAtEachPull() {
        ArchiveMirrors x = Check.archiveOf(1, 60, 60, 60, 60);
        x.release();
        add(x, 119, true);
        for (int i = 1; i <= 4; i++) {
            Check.equal("the first mirror", x.pass(1), 1);
        }
        Check.equal("it has all", x.mirror(0, 10), 1);
        Check.equal("and copies no more", x.pass(1), 0);
        add(x, 60, true);
        add(x, 60, true);
        Check.equal("each mirror has a capacity of its own", x.pass(4), 8);
    }

    /** "For each of them that the mirror does not have" */
    private static void capacityIsNotUsedByFilesThatAreThere() {
        ArchiveMirrors x = Check.archiveOf(1, 60, 60);
        x.release();
        add(x, 60, false);
        x.pass(1);
        filesAre("a", x, 0, 2, 0);
        Check.equal("b takes the whole capacity", x.pass(1), 1);
        filesAre("a and b", x, 0, 2, 2);
    }

    /** "otherwise it is left out, and the next one is looked at" */
    private static void capacityIsNotUsedByFilesLeftOut() {
        ArchiveMirrors x = Check.archiveOf(1, 60, 40, 61, 20);
        x.release();
        x.addMirror(1, 60, 1, NONE, 200, false);
        x.addMirror(1, 1, 0, 0, 60, false);
        x.pass(1);
        filesAre("upstream", x, 0, 2, 2, 2, 2);
        filesAre("a alone", x, 1, 2, 0, 0, 0);
        x.removeFile(0, 0, 1);
        x.removeFile(1, 0, 1);
        Check.equal("a is not at the upstream, c is too large", x.pass(1), 2);
        filesAre("b and d", x, 1, 0, 2, 0, 2);
    }

    private static void tooLargeIsLeftOutForEver() {
        ArchiveMirrors x = Check.archiveOf(1, 99, 98);
        x.release();
        add(x, 98, true);
        Check.equal("98 alone", x.pass(200), 1);
        filesAre("98 alone", x, 0, 0, 2);
        Check.equal("so it takes no index", x.mirror(0, 4), 0);
    }

    /** "in ascending order of the packages" */
    private static void ascendingOrderOfThePackages() {
        ArchiveMirrors x = States.of(1, 12, 0, 0, 0);
        x.release();
        add(x, 17, true);
        Check.equal("a and b, of 5 and 6", x.pass(1), 2);
        filesAre("a and b", x, 0, 2, 2, 0, 0, 0);
        Check.equal("c and d, of 7 and 8", x.pass(1), 2);
        filesAre("c and d", x, 0, 2, 2, 2, 2, 0);
        for (int i = 4; i < 12; i++) {
            Check.equal("then one at a time", x.pass(1), 1);
            Check.equal("the next one", x.files(0, i), 2);
        }
        Check.equal("all", x.mirror(0, 10), 1);
    }

    /** "whose sections the mirror carries": of five sections, each alone, and all. */
    private static void onlyCarriedSections() {
        for (int set = 1; set < 32; set++) {
            ArchiveMirrors x = States.of(5, 5, 0, 0, 0);
            x.release();
            x.addMirror(set, 1, 0, NONE, 200, true);
            Check.equal("sections " + set, x.pass(1), Integer.bitCount(set));
            for (int i = 0; i < 5; i++) {
                Check.equal("sections " + set + ", package " + i, x.files(0, i), (set >> i & 1) * 2);
            }
            Check.equal("sections " + set + ": complete", x.mirror(0, 10), 1);
            Check.equal("sections " + set + ": none is missing", x.mirror(0, 6), 0);
        }
    }

    /** A mirror whose sections have no packages has all wanted files, of which there are none. */
    private static void nothingWanted() {
        ArchiveMirrors x = Check.archiveOf(2, 10);
        x.release();
        x.addMirror(2, 1, 0, NONE, 1, true);
        x.addMirror(2, 1, 0, NONE, 1, false);
        Check.equal("nothing is copied", x.pass(1), 0);
        for (int i = 0; i < 2; i++) {
            mirrorIs("nothing is wanted", x, i, 2, 1, 0, NONE, 1, 0, 0, 0, 1, 0, 1);
        }
        Check.equal("both are complete", x.count(7), 2);
    }

    /** "A careful mirror that now has all wanted files takes the index" */
    private static void carefulWithAllButOne() {
        ArchiveMirrors x = Check.archiveOf(1, 10, 10, 10);
        x.release();
        add(x, 20, true);
        x.pass(1);
        Check.equal("without the last one, no index", x.mirror(0, 4), 0);
        Check.equal("without an index, nothing is missing", x.mirror(0, 6), 0);
        x.removeFile(0, 0, 1);
        x.removeFile(0, 1, 1);
        x.addMirror(1, 1, 0, NONE, 30, true);
        x.pass(1);
        Check.equal("without the last one again", x.mirror(0, 4), 0);
        Check.equal("with all in its first pull", x.mirror(1, 4), 1);
        x.pass(1);
        Check.equal("with all, the index", x.mirror(0, 4), 1);
    }

    /** It takes the index also if it has all files from before and copies none. */
    private static void carefulCountsFilesNotCopies() {
        ArchiveMirrors x = Check.archiveOf(1, 10);
        x.release();
        add(x, 10, true);
        x.pass(1);
        x.release();
        Check.equal("no file is new", x.pass(1), 0);
        Check.equal("the new index is taken", x.mirror(0, 4), 2);
    }

    private static void carefulKeepsATamperedIndex() {
        ArchiveMirrors x = Check.archiveOf(1, 10, 10);
        x.release();
        add(x, 10, true);
        x.pass(2);
        Check.equal("tamper", x.tamper(0), 1);
        x.publish(0);
        x.publish(1);
        x.release();
        x.pass(1);
        Check.equal("without all files the old index stays", x.mirror(0, 4), 1);
        Check.equal("and is tampered with", x.mirror(0, 5), 1);
        Check.equal("and is not complete", x.mirror(0, 10), 0);
        x.pass(1);
        Check.equal("with all files the new index", x.mirror(0, 4), 2);
        Check.equal("has the right signature", x.mirror(0, 5), 0);
        Check.equal("and is complete", x.mirror(0, 10), 1);
    }

    /** "all its files are removed but those of the packages and versions of this index" */
    private static void anotherIndexRemovesOldFiles() {
        ArchiveMirrors x = Check.archiveOf(1, 10, 20);
        x.release();
        add(x, 30, false);
        add(x, 30, true);
        x.pass(1);
        x.publish(0);
        x.publish(1);
        x.publish(1);
        x.release();
        x.pass(1);
        filesAre("careless", x, 0, 1 << 2, 1 << 3);
        filesAre("careful", x, 1, 1 << 2, 1 << 3);
        x.publish(0);
        x.publish(1);
        x.release();
        x.addMirror(1, 60, 3, 0, 10, false);
        x.addMirror(1, 60, 3, 0, 10, true);
        x.pass(1);
        filesAre("a capacity for one file", x, 2, 1 << 3, 0);
        x.publish(0);
        x.publish(1);
        x.release();
        x.pass(60);
        filesAre("the old file goes, the new one comes", x, 2, 1 << 4, 0);
        filesAre("without an index the old one stays", x, 3, 1 << 3 | 1 << 4, 0);
    }

    private static void anotherIndexKeepsSameVersions() {
        ArchiveMirrors x = Check.archiveOf(1, 10, 10, 10);
        x.release();
        add(x, 30, false);
        x.pass(1);
        x.publish(1);
        x.release();
        Check.equal("one file is new", x.pass(1), 1);
        filesAre("the others stay", x, 0, 2, 4, 2);
        x.addPackage(0, 10, 0);
        x.release();
        Check.equal("one package is new", x.pass(1), 1);
        filesAre("the others stay", x, 0, 2, 4, 2, 2);
    }

    /** A pull that takes the index that the mirror has already removes nothing. */
    private static void sameIndexKeepsFiles() {
        ArchiveMirrors x = Check.archiveOf(1, 10, 10);
        x.release();
        add(x, 20, false);
        add(x, 20, true);
        x.pass(1);
        x.publish(0);
        x.tamper(0);
        x.tamper(1);
        Check.equal("nothing is copied", x.pass(200), 0);
        filesAre("careless", x, 0, 2, 2);
        filesAre("careful", x, 1, 2, 2);
        Check.equal("files", x.count(8), 4);
    }

    /** A mirror that had none has taken another one than it had before. */
    private static void firstIndexIsAnother() {
        ArchiveMirrors x = Check.archiveOf(1, 10, 20);
        x.release();
        add(x, 20, true);
        x.pass(1);
        filesAre("without an index", x, 0, 2, 0);
        x.publish(0);
        x.release();
        x.pass(1);
        filesAre("still without an index", x, 0, 6, 0);
        Check.equal("still without an index", x.mirror(0, 4), 0);
        x.pass(1);
        Check.equal("the first index", x.mirror(0, 4), 2);
        filesAre("the first index", x, 0, 4, 2);
    }

    /** A mirror may go from index 1 to index 20 in one pull. */
    private static void severalIndexesAtOnce() {
        ArchiveMirrors x = Check.archiveOf(1, 10);
        x.release();
        x.addMirror(1, 60, 1, NONE, 10, true);
        x.pass(1);
        for (int i = 2; i <= 20; i++) {
            x.publish(0);
            x.release();
        }
        Check.equal("19 are later", x.mirror(0, 9), 19);
        Check.equal("one file", x.pass(60), 1);
        Check.equal("index 20", x.mirror(0, 4), 20);
        filesAre("version 20 alone", x, 0, 1 << 20);
    }

    /** "A mirror is complete if it has an index that is not tampered with, and all files .." */
    private static void completeOrNot() {
        ArchiveMirrors x = Check.archiveOf(1, 10, 10);
        add(x, 20, false);
        Check.equal("without an index", x.mirror(0, 10), 0);
        x.release();
        x.pass(1);
        Check.equal("with index and files", x.mirror(0, 10), 1);
        x.tamper(0);
        Check.equal("tampered with", x.mirror(0, 10), 0);
        Check.equal("no complete mirror", x.count(7), 0);
        x.pass(1);
        x.removeFile(0, 1, 1);
        Check.equal("without one file", x.mirror(0, 10), 0);
        Check.equal("one is missing", x.mirror(0, 6), 1);
        x.pass(1);
        Check.equal("with it again", x.mirror(0, 10), 1);
        Check.equal("one complete mirror", x.count(7), 1);
    }

    /** The index may be an old one, and stale. */
    private static void completeAtAnOldIndex() {
        ArchiveMirrors x = Check.archiveOf(1, 10);
        x.release();
        x.addMirror(1, 60, 1, NONE, 10, true);
        x.setValidity(1);
        x.pass(1);
        x.publish(0);
        x.addPackage(0, 10, 0);
        x.release();
        x.pass(50);
        Check.equal("complete", x.mirror(0, 10), 1);
        Check.equal("one is later", x.mirror(0, 9), 1);
        Check.equal("nothing is missing", x.mirror(0, 6), 0);
    }

    /** "the number of files of its index that it should have (by its sections) and does not have" */
    private static void missingFiles() {
        ArchiveMirrors x = States.of(2, 12, 0, 0, 0);
        x.release();
        x.addMirror(3, 1, 0, NONE, 4, false);
        x.addMirror(2, 1, 0, NONE, 4, false);
        x.addMirror(3, 1, 0, NONE, 4, true);
        x.addMirror(3, 1, 0, NONE, 200, true);
        x.pass(1);
        int[] due = {12, 6, 0, 0};
        for (int i = 0; i < due.length; i++) {
            Check.equal("missing at " + i, x.mirror(i, 6), due[i]);
        }
        x.tamper(0);
        Check.equal("missing also where it is tampered with", x.mirror(0, 6), 12);
    }

    /** "Returns the number of its index.": also if it is tampered with already. */
    private static void tamperAgain() {
        ArchiveMirrors x = Check.archiveOf(1, 10);
        for (int i = 0; i < 20; i++) {
            x.release();
        }
        x.addMirror(1, 60, 1, NONE, 10, false);
        x.pass(1);
        Check.equal("tamper", x.tamper(0), 20);
        long before = x.digest();
        Check.equal("tamper again", x.tamper(0), 20);
        Check.equal("nothing more is changed", x.digest(), before);
        Check.equal("its files stay", x.mirror(0, 7), 1);
        Check.equal("its index stays", x.mirror(0, 4), 20);
    }

    /** "Throws IllegalStateException if it has no index": also if it has files. */
    private static void tamperWithoutAnIndex() {
        ArchiveMirrors x = Check.archiveOf(1, 10, 20);
        x.release();
        add(x, 20, true);
        Check.badState(x, "tamper without an index", () -> x.tamper(0));
        x.pass(1);
        Check.equal("a file", x.mirror(0, 7), 1);
        Check.badState(x, "tamper with files, without an index", () -> x.tamper(0));
        x.pass(1);
        Check.equal("tamper with an index", x.tamper(0), 1);
    }

    /** "Returns how many files the mirror has then." */
    private static void removeTheLastFile() {
        ArchiveMirrors x = States.of(1, 12, 0, 0, 0);
        x.release();
        add(x, 200, true);
        add(x, 200, true);
        x.pass(1);
        for (int i = 0; i < 12; i++) {
            int number = i;
            Check.equal("removeFile", x.removeFile(0, i, 1), 11 - i);
            Check.badState(x, "removeFile again", () -> x.removeFile(0, number, 1));
        }
        Check.equal("the other mirror keeps its files", x.mirror(1, 7), 12);
        Check.equal("the index stays", x.mirror(0, 4), 1);
    }

    /** "Throws IllegalStateException if the mirror does not have this file" */
    private static void removeFileOfAnotherVersion() {
        ArchiveMirrors x = Check.archiveOf(1, 10, 10);
        x.publish(0);
        x.release();
        add(x, 20, false);
        x.pass(1);
        x.publish(0);
        for (int version : new int[] {1, 3, 0, 30, 31, 32, 34, -30, -1, Integer.MIN_VALUE + 2, Integer.MAX_VALUE}) {
            Check.badState(x, "removeFile of version " + version, () -> x.removeFile(0, 0, version));
        }
        Check.equal("removeFile of version 2", x.removeFile(0, 0, 2), 1);
    }

    /** "as a bit mask with bit v for version v": from version 1 to version 30. */
    private static void filesWithSeveralVersions() {
        ArchiveMirrors x = Check.archiveOf(1, 10, 20);
        add(x, 10, true);
        int due = 0;
        for (int version = 1; version <= 20; version++) {
            x.release();
            x.pass(1);
            due |= 1 << x.packageAt(0, 3);
            filesAre("without an index all versions stay", x, 0, due, 0);
            Check.equal("as files", x.mirror(0, 7), version);
            x.publish(0);
            if (version == 1 || version == 18) {
                int step = version == 1 ? 4 : 5;
                for (int i = 0; i < step; i++) {
                    x.publish(0);
                }
            }
        }
        Check.equal("versions from 1 to 29", due >>> 29, 1);
        Check.equal("all files", x.count(8), 20);
        Check.equal("removeFile of version 1", x.removeFile(0, 0, 1), 19);
        filesAre("without version 1", x, 0, due & ~2, 0);
    }

    /** "(all of them, if it has none)" */
    private static void laterIndexes() {
        ArchiveMirrors x = Check.archiveOf(1, 10);
        x.addMirror(1, 60, 1, NONE, 10, true);
        Check.equal("without indexes", x.mirror(0, 9), 0);
        x.release();
        x.release();
        Check.equal("two, and none of its own", x.mirror(0, 9), 2);
        x.pass(1);
        Check.equal("none is later", x.mirror(0, 9), 0);
        x.release();
        Check.equal("one is later", x.mirror(0, 9), 1);
        x.tamper(0);
        Check.equal("one is later, also if it is tampered with", x.mirror(0, 9), 1);
    }
}
