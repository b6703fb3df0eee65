import java.util.function.Consumer;

/**
 * "A call that throws an exception changes nothing. If several exceptions apply, the one that is
 * named first in the throws clause is thrown."
 */
public final class ExceptionsTest {
    private static final int NONE = ArchiveMirrors.NONE;
    private static final Class<IllegalArgumentException> ARGUMENT = IllegalArgumentException.class;
    private static final Class<IllegalStateException> STATE = IllegalStateException.class;
    private static final Class<IndexOutOfBoundsException> BOUNDS = IndexOutOfBoundsException.class;

    public static void main(String[] args) {
        fullIsRefused();
        emptyIsRefused();
        argumentBeforeState();
        boundsBeforeState();
        boundsBeforeArgument();
        boundsBeforeAll();
        Check.end();
    }

    private static void full(String what, Class<? extends RuntimeException> due, Consumer<ArchiveMirrors> call) {
        Check.refusedOf(States::full, what + ", full", due, (x, value) -> answer(x, call), 0);
    }

    private static void some(String what, Class<? extends RuntimeException> due, Consumer<ArchiveMirrors> call) {
        Check.refusedOf(States::some, what + ", some", due, (x, value) -> answer(x, call), 0);
    }

    private static void fresh(String what, Class<? extends RuntimeException> due, Consumer<ArchiveMirrors> call) {
        Check.refusedOf(ArchiveMirrors::new, what + ", new", due, (x, value) -> answer(x, call), 0);
    }

    private static long answer(ArchiveMirrors x, Consumer<ArchiveMirrors> call) {
        call.accept(x);
        return 0;
    }

    private static void fullIsRefused() {
        full("addPackage", STATE, x -> x.addPackage(0, 1, 0));
        full("addPackage, the greatest values", STATE, x -> x.addPackage(4, 99, 4095));
        full("publish", STATE, x -> x.publish(0));
        full("release", STATE, x -> x.release());
        full("append", STATE, x -> x.append('0'));
        full("append of the least code", STATE, x -> x.append(32));
        full("append of the greatest code", STATE, x -> x.append(126));
        full("load", ARGUMENT, x -> x.load());
        full("addMirror", STATE, x -> x.addMirror(1, 1, 0, NONE, 1, false));
        full("addMirror, the greatest values", STATE, x -> x.addMirror(31, 60, 59, 5, 200, true));
        full("addClient", STATE, x -> x.addClient(1));
        full("addClient, the greatest value", STATE, x -> x.addClient(63));
    }

    private static void emptyIsRefused() {
        fresh("release", STATE, x -> x.release());
        fresh("publish", BOUNDS, x -> x.publish(0));
        fresh("load", ARGUMENT, x -> x.load());
        fresh("tamper", BOUNDS, x -> x.tamper(0));
        fresh("removeFile", BOUNDS, x -> x.removeFile(0, 0, 1));
        fresh("mirror", BOUNDS, x -> x.mirror(0, 0));
        fresh("files", BOUNDS, x -> x.files(0, 0));
        fresh("addClient", ARGUMENT, x -> x.addClient(1));
        fresh("install", BOUNDS, x -> x.install(0, 0));
        fresh("ifInstalled", BOUNDS, x -> x.ifInstalled(0, 0, 0));
        fresh("until", BOUNDS, x -> x.until(0, 0));
        fresh("client", BOUNDS, x -> x.client(0, 0));
        fresh("packageAt", BOUNDS, x -> x.packageAt(0, 0));
        fresh("index", BOUNDS, x -> x.index(1, 0));
    }

    private static void argumentBeforeState() {
        full("addPackage of size 0", ARGUMENT, x -> x.addPackage(0, 0, 0));
        full("addPackage of size 100", ARGUMENT, x -> x.addPackage(0, 100, 0));
        full("addPackage on a 13th", ARGUMENT, x -> x.addPackage(0, 1, 4096));
        full("addPackage on a negative set", ARGUMENT, x -> x.addPackage(0, 1, -1));
        full("append of 31", ARGUMENT, x -> x.append(31));
        full("append of 127", ARGUMENT, x -> x.append(127));
        full("addMirror for no section", ARGUMENT, x -> x.addMirror(0, 1, 0, NONE, 1, true));
        full("addMirror for a 6th section", ARGUMENT, x -> x.addMirror(32, 1, 0, NONE, 1, true));
        full("addMirror for a negative set", ARGUMENT, x -> x.addMirror(-1, 1, 0, NONE, 1, true));
        full("addMirror with interval 0", ARGUMENT, x -> x.addMirror(1, 0, 0, NONE, 1, true));
        full("addMirror with interval 61", ARGUMENT, x -> x.addMirror(1, 61, 0, NONE, 1, true));
        full("addMirror with offset -1", ARGUMENT, x -> x.addMirror(1, 1, -1, NONE, 1, true));
        full("addMirror with offset 1 of 1", ARGUMENT, x -> x.addMirror(1, 1, 1, NONE, 1, true));
        full("addMirror with capacity 0", ARGUMENT, x -> x.addMirror(1, 1, 0, NONE, 0, true));
        full("addMirror with capacity 201", ARGUMENT, x -> x.addMirror(1, 1, 0, NONE, 201, true));
        full("addClient for no mirror", ARGUMENT, x -> x.addClient(0));
        full("addClient for a 7th mirror", ARGUMENT, x -> x.addClient(64));
        full("addClient for a negative set", ARGUMENT, x -> x.addClient(-1));
    }

    private static void boundsBeforeState() {
        full("addPackage in section -1", BOUNDS, x -> x.addPackage(-1, 1, 0));
        full("addPackage in section 5", BOUNDS, x -> x.addPackage(5, 1, 0));
        full("addMirror below mirror -2", BOUNDS, x -> x.addMirror(1, 1, 0, -2, 1, true));
        full("addMirror below mirror 6", BOUNDS, x -> x.addMirror(1, 1, 0, 6, 1, true));
        some("removeFile of no mirror and no file", BOUNDS, x -> x.removeFile(2, 0, 31));
        some("removeFile of no package and no file", BOUNDS, x -> x.removeFile(0, 3, 31));
    }

    private static void boundsBeforeArgument() {
        some("addPackage in section 3 of size 0", BOUNDS, x -> x.addPackage(3, 0, 0));
        some("addPackage in section 3 on a 4th", BOUNDS, x -> x.addPackage(3, 1, 8));
        some("addMirror below mirror 2 for no section", BOUNDS, x -> x.addMirror(0, 1, 0, 2, 1, true));
        some("addMirror below mirror 2 with interval 0", BOUNDS, x -> x.addMirror(1, 0, 0, 2, 1, true));
        some("addMirror below mirror 2 with offset 1 of 1", BOUNDS, x -> x.addMirror(1, 1, 1, 2, 1, true));
        some("addMirror below mirror 2 with capacity 0", BOUNDS, x -> x.addMirror(1, 1, 0, 2, 0, true));
        some("mirror 2, what 11", BOUNDS, x -> x.mirror(2, 11));
        some("mirror -1, what -1", BOUNDS, x -> x.mirror(-1, -1));
        some("install by client 2 of a 4th package", BOUNDS, x -> x.install(2, 8));
        some("install by client -1 of a negative set", BOUNDS, x -> x.install(-1, -1));
        some("ifInstalled by client 2 of a 4th package", BOUNDS, x -> x.ifInstalled(2, 8, 0));
        some("ifInstalled by client 2, what 5", BOUNDS, x -> x.ifInstalled(2, 0, 5));
        some("ifInstalled by client -1 of a negative set, what -1", BOUNDS, x -> x.ifInstalled(-1, -1, -1));
        some("until by client 2 of a 4th package", BOUNDS, x -> x.until(2, 8));
        some("until by client -1 of a negative set", BOUNDS, x -> x.until(-1, -1));
        some("client 2, what 6", BOUNDS, x -> x.client(2, 6));
        some("client -1, what -1", BOUNDS, x -> x.client(-1, -1));
        some("packageAt 3, what 6", BOUNDS, x -> x.packageAt(3, 6));
        some("packageAt -1, what -1", BOUNDS, x -> x.packageAt(-1, -1));
        some("index 3, what 7", BOUNDS, x -> x.index(3, 7));
        some("index 0, what -1", BOUNDS, x -> x.index(0, -1));
    }

    private static void boundsBeforeAll() {
        full("addPackage, all wrong", BOUNDS, x -> x.addPackage(5, 100, 4096));
        full("addMirror, all wrong", BOUNDS, x -> x.addMirror(32, 61, 61, 6, 201, true));
        full("addMirror, all wrong and negative", BOUNDS, x -> x.addMirror(-1, -1, -1, -2, -1, false));
    }
}
