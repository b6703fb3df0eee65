import java.math.BigInteger;
import java.util.function.Supplier;

/**
 * The boundary cases of the mean age and of the hash, promises 25 and 26, and the 512 calls for
 * which an object is used. Above each test stands the sentence of the document that it holds to.
 */
public final class StateEdgesTest {
    private static final int NONE = ArchiveMirrors.NONE;
    private static final int CALLS = 512;

    public static void main(String[] args) {
        meanOfNone();
        meanOfTamperedOnes();
        meanOfAgeZero();
        meanOfOneToSix();
        meanIsNoWholeNumber();
        digestOfANewObject();
        digestWrapsAround();
        digestOfTheBuffer();
        digestOfIndexesLeavesOutLaterPackages();
        digestOfAFullObject();
        digestOfEachLimit();
        digestOfTheEmptySet();
        digestChangesNothing();
        lastOfAllCalls();
        Check.end();
    }

    /** "0.0 if there are none" */
    private static void meanOfNone() {
        ArchiveMirrors x = new ArchiveMirrors();
        Check.equal("without mirrors", x.meanAge(), 0.0);
        x.addMirror(1, 1, 0, NONE, 1, true);
        x.pass(200);
        Check.equal("without an index", x.meanAge(), 0.0);
        x.addPackage(0, 2, 0);
        x.release();
        x.pass(1);
        Check.equal("without an index that is taken", x.meanAge(), 0.0);
    }

    /** "over all mirrors with an index that is not tampered with" */
    private static void meanOfTamperedOnes() {
        ArchiveMirrors x = Check.archiveOf(1, 1);
        x.addMirror(1, 60, 1, NONE, 1, false);
        x.addMirror(1, 60, 2, NONE, 1, false);
        x.release();
        x.pass(1);
        x.release();
        x.pass(4);
        Check.equal("5 and 4", x.meanAge(), 4.5);
        x.tamper(0);
        Check.equal("4 alone", x.meanAge(), 4.0);
        x.tamper(1);
        Check.equal("none", x.meanAge(), 0.0);
    }

    /** An index is pulled a minute after its release at the earliest, so that no age is 0 but that of none. */
    private static void meanOfAgeZero() {
        ArchiveMirrors x = Check.archiveOf(1, 1);
        x.addMirror(1, 1, 0, NONE, 1, false);
        x.release();
        Check.equal("not pulled yet", x.meanAge(), 0.0);
        x.pass(1);
        Check.equal("pulled", x.meanAge(), 1.0);
        x.release();
        Check.equal("the age of its own index", x.meanAge(), 1.0);
        x.pass(1);
        Check.equal("the age of the new one", x.meanAge(), 1.0);
    }

    private static void meanOfOneToSix() {
        ArchiveMirrors x = Check.archiveOf(1, 1);
        for (int i = 0; i < 6; i++) {
            x.addMirror(1, 60, 6 - i, NONE, 1, false);
        }
        double sum = 0;
        for (int i = 1; i <= 6; i++) {
            x.release();
            x.pass(1);
            sum += i;
            Check.equal("mean of " + i, x.meanAge(), sum / i);
        }
    }

    /** "the sum as a double, divided by the number of these mirrors" */
    private static void meanIsNoWholeNumber() {
        ArchiveMirrors x = Check.archiveOf(1, 1);
        for (int i = 0; i < 6; i++) {
            x.addMirror(1, 60, i == 5 ? 2 : 1, NONE, 1, false);
        }
        x.release();
        x.pass(1);
        x.release();
        x.pass(1);
        Check.equal("2, 2, 2, 2, 2 and 1", x.meanAge(), 11.0 / 6);
        x.tamper(0);
        x.tamper(1);
        x.tamper(2);
        Check.equal("2, 2 and 1", x.meanAge(), 5.0 / 3);
        for (int i = 0; i < 8; i++) {
            x.pass(7);
        }
        Check.equal("58, 58 and 57", x.meanAge(), 173.0 / 3);
    }

    private static long hash(long start, int... values) {
        long hash = start;
        for (int value : values) {
            hash = 31 * hash + value;
        }
        return hash;
    }

    /** "The hash starts as 1999"; there is nothing but the counts and the length of the buffer. */
    private static void digestOfANewObject() {
        long due = hash(1999, 1, 0, 0, 0, 0, 0, 60, 0, 0, 0, 0);
        Check.equal("digest of a new object", new ArchiveMirrors().digest(), due);
        ArchiveMirrors x = new ArchiveMirrors();
        x.begin(5);
        Check.equal("digest of five sections", x.digest(), hash(1999, 5, 0, 0, 0, 0, 0, 60, 0, 0, 0, 0));
    }

    /** "in long arithmetic with overflow" */
    private static void digestWrapsAround() {
        ArchiveMirrors x = new ArchiveMirrors();
        BigInteger due = BigInteger.valueOf(1999);
        int[] values = {1, 0, 0, 0, 0, 0, 60, 0, 0, 0, 60};
        for (int i = 0; i < values.length + 60; i++) {
            int value = i < values.length ? values[i] : 126;
            due = due.multiply(BigInteger.valueOf(31)).add(BigInteger.valueOf(value));
        }
        for (int i = 0; i < 60; i++) {
            x.append(126);
        }
        Check.equal("the hash is larger than a long", due.bitLength() > 64 ? 1 : 0, 1);
        Check.equal("digest of sixty characters", x.digest(), due.longValue());
    }

    /** "the length of the input buffer and each of its character codes" */
    private static void digestOfTheBuffer() {
        ArchiveMirrors x = new ArchiveMirrors();
        int[] start = {1, 0, 0, 0, 0, 0, 60, 0, 0, 0};
        x.append(32);
        Check.equal("one character", x.digest(), hash(1999, 1, 0, 0, 0, 0, 0, 60, 0, 0, 0, 1, 32));
        x.append(126);
        x.append(48);
        Check.equal("three characters", x.digest(), hash(hash(1999, start), 3, 32, 126, 48));
        x.clearInput();
        Check.equal("no characters", x.digest(), hash(hash(1999, start), 0));
    }

    /** "the versions of all packages that are in it" */
    private static void digestOfIndexesLeavesOutLaterPackages() {
        ArchiveMirrors x = new ArchiveMirrors();
        x.addPackage(0, 7, 0);
        x.release();
        x.addPackage(0, 8, 1);
        x.publish(1);
        x.release();
        long due = hash(1999, 1, 2, 2, 0, 0, 0, 60, 0, 0, 0);
        due = hash(due, 0, 7, 0, 1, 1, 0, 0, 8, 1, 2, 3, 0);
        due = hash(due, 0, 1, x.index(1, 2), 1, 1);
        due = hash(due, 0, 2, x.index(2, 2), 1, 1, 2, 0);
        Check.equal("two indexes", x.digest(), due);
    }

    private static void digestOfAFullObject() {
        Check.equal("digest of a full object", States.full().digest(), Digests.of(States::full, States.SIXTY));
    }

    /** With none, one, and the most of each thing. */
    private static void digestOfEachLimit() {
        int[][] some = {{1, 0, 0, 0, 0}, {5, 1, 0, 0, 0}, {1, 12, 0, 0, 0}, {1, 1, 1, 0, 0}, {2, 2, 20, 0, 0},
            {2, 2, 2, 1, 0}, {2, 12, 2, 6, 0}, {2, 2, 2, 1, 1}, {3, 3, 3, 2, 4}, {5, 12, 20, 6, 4}, {1, 0, 0, 6, 4}};
        for (int[] s : some) {
            Supplier<ArchiveMirrors> make = () -> States.of(s[0], s[1], s[2], s[3], s[4]);
            String where = "digest of " + s[0] + ", " + s[1] + ", " + s[2] + ", " + s[3] + ", " + s[4];
            Check.equal(where, make.get().digest(), Digests.of(make, ""));
        }
    }

    /** "ifInstalled for the empty set and 0 to 4, and until for the empty set" */
    private static void digestOfTheEmptySet() {
        ArchiveMirrors x = Check.archiveOf(1, 20, 10);
        x.release();
        x.addMirror(1, 7, 1, NONE, 10, false);
        x.addClient(1);
        Check.equal("the empty set must wait", x.until(0, 0), 1);
        Check.equal("digest before the pull", x.digest(), Digests.of(() -> x, ""));
        x.pass(1);
        Check.equal("the empty set is accepted", x.until(0, 0), 0);
        Check.equal("a package is not", x.until(0, 1), NONE);
        Check.equal("digest after the pull", x.digest(), Digests.of(() -> x, ""));
    }

    private static void digestChangesNothing() {
        ArchiveMirrors x = States.full();
        long first = x.digest();
        Check.equal("digest again", x.digest(), first);
        Check.equal("later answers", States.future(x).equals(States.future(States.full())) ? 1 : 0, 1);
    }

    /** As late as it can be: 511 calls are made, all but four of them to let time pass. */
    private static ArchiveMirrors late() {
        ArchiveMirrors x = new ArchiveMirrors();
        x.addPackage(0, 1, 0);
        x.release();
        x.addMirror(1, 60, 59, NONE, 1, true);
        x.addClient(1);
        for (int i = 5; i < CALLS; i++) {
            x.pass(200);
        }
        return x;
    }

    /** "An object is used for at most 512 calls after it has been made": the last one is right too. */
    private static void lastOfAllCalls() {
        int time = 200 * (CALLS - 5);
        Check.equal("the latest time", late().count(5), time);
        Check.equal("the latest age", late().meanAge(), (double) time);
        Check.equal("the latest pull", late().mirror(0, 8), 60 - (time + 1) % 60);
        Check.equal("the latest index", late().release(), 2);
        Check.equal("the latest install", late().install(0, 1), 1);
        Check.equal("the latest until", late().until(0, 1), NONE);
        Check.equal("the latest pass", late().pass(200), 0);
        ArchiveMirrors x = new ArchiveMirrors();
        for (int i = 1; i < CALLS; i++) {
            x.begin(1 + i % 5);
        }
        Check.equal("the 512th begin", x.begin(1), 1 + (CALLS - 1) % 5);
    }
}
