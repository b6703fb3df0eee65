import java.util.function.Supplier;

/**
 * Every argument with a range, and every set as a bit mask: the last values that are allowed, the
 * first that are not, on both sides, and the far ones. A refused call changes nothing.
 */
public final class RangesTest {
    private static final int NONE = ArchiveMirrors.NONE;
    private static final Class<IllegalArgumentException> ARGUMENT = IllegalArgumentException.class;
    private static final Class<IllegalStateException> STATE = IllegalStateException.class;
    private static final Class<IndexOutOfBoundsException> BOUNDS = IndexOutOfBoundsException.class;

    public static void main(String[] args) {
        begin();
        addPackageSection();
        addPackageSize();
        addPackageDependencies();
        publish();
        setValidity();
        append();
        addMirrorUpstream();
        addMirrorSections();
        addMirrorTimes();
        addMirrorCapacity();
        mirrorNumbers();
        removeFile();
        pass();
        packageNumbers();
        addClient();
        clientNumbers();
        packageSets();
        kinds();
        kindsByPackages();
        indexNumbers();
        Check.end();
    }

    /** The values from least to greatest are allowed and no other; there are none if least is greater. */
    private static void range(String what, Supplier<ArchiveMirrors> make, Check.Call call, int least, int greatest,
            Class<? extends RuntimeException> due) {
        for (int value : new int[] {least, least + 1, greatest - 1, greatest}) {
            if (value >= least && value <= greatest) {
                allowed(make, what, call, value);
            }
        }
        for (int value : new int[] {Integer.MIN_VALUE, least - 2, least - 1, greatest + 1, greatest + 2,
            Integer.MAX_VALUE}) {
            Check.refusedOf(make, what, due, call, value);
        }
    }

    /** As a range, where the call answers what was kept of the value. */
    private static void keptRange(String what, Supplier<ArchiveMirrors> make, Check.Call call, int least, int greatest,
            Class<? extends RuntimeException> due) {
        range(what, make, call, least, greatest, due);
        for (int value = least; value <= greatest; value++) {
            kept(make, what, call, value);
        }
    }

    /** The sets of things from 0 on are allowed, and no set with another bit; the sign is a bit too. */
    private static void sets(String what, Supplier<ArchiveMirrors> make, Check.Call call, int things) {
        for (int bit = 0; bit < 32; bit++) {
            if (bit < things) {
                allowed(make, what, call, 1 << bit);
            } else {
                Check.refusedOf(make, what, ARGUMENT, call, 1 << bit);
            }
        }
        int all = (1 << things) - 1;
        if (things > 0) {
            allowed(make, what, call, all);
        }
        for (int set : new int[] {all + 1 | all, -1, Integer.MIN_VALUE | all, Integer.MAX_VALUE, -1 << things}) {
            Check.refusedOf(make, what, ARGUMENT, call, set);
        }
    }

    private static void allowed(Supplier<ArchiveMirrors> make, String what, Check.Call call, int value) {
        try {
            call.on(make.get(), value);
        } catch (RuntimeException e) {
            Check.fail(what + " with " + value + " threw " + e + ", due is an answer");
        }
    }

    private static void kept(Supplier<ArchiveMirrors> make, String what, Check.Call call, int value) {
        Check.equal(what + " with " + value + ", read again", call.on(make.get(), value), value);
    }

    private static void begin() {
        Check.Call call = (x, sections) -> {
            x.begin(sections);
            return x.count(0);
        };
        keptRange("begin, new", ArchiveMirrors::new, call, 1, 5, ARGUMENT);
        keptRange("begin, full", States::full, call, 1, 5, ARGUMENT);
    }

    private static void addPackageSection() {
        for (int i = 1; i <= 5; i++) {
            int sections = i;
            Check.Call call = (x, section) -> x.packageAt(x.addPackage(section, 1, 0), 0);
            keptRange("addPackage in a section of " + i, () -> States.of(sections, 2, 1, 1, 1), call, 0, sections - 1,
                    BOUNDS);
        }
        Check.Call call = (x, section) -> x.packageAt(x.addPackage(section, 1, 0), 0);
        keptRange("addPackage to a new object", ArchiveMirrors::new, call, 0, 0, BOUNDS);
    }

    private static void addPackageSize() {
        Check.Call call = (x, size) -> x.packageAt(x.addPackage(0, size, 0), 1);
        keptRange("addPackage of a size", States::some, call, 1, 99, ARGUMENT);
    }

    /** A package depends on packages with lower numbers, so its own number is the first bit that is refused. */
    private static void addPackageDependencies() {
        for (int i = 0; i <= 11; i++) {
            int packages = i;
            Supplier<ArchiveMirrors> make = () -> States.of(2, packages, 0, 1, 1);
            Check.Call call = (x, set) -> x.packageAt(x.addPackage(0, 1, set), 2);
            sets("addPackage behind " + i, make, call, packages);
            kept(make, "addPackage behind " + i, call, 0);
            kept(make, "addPackage behind " + i, call, (1 << packages) - 1);
        }
    }

    private static void publish() {
        Check.Call call = (x, number) -> x.publish(number);
        for (int i : new int[] {0, 1, 2, 11, 12}) {
            range("publish of " + i, () -> States.of(1, i, 0, 0, 0), call, 0, i - 1, BOUNDS);
        }
    }

    private static void setValidity() {
        Check.Call call = (x, minutes) -> {
            x.setValidity(minutes);
            return x.count(6);
        };
        keptRange("setValidity", States::some, call, 1, 999, ARGUMENT);
    }

    private static void append() {
        range("append to an empty buffer", ArchiveMirrors::new, (x, code) -> x.append(code), 32, 126, ARGUMENT);
        range("append to a text", States::some, (x, code) -> x.append(code), 32, 126, ARGUMENT);
        // These have the low bits of a code that is allowed.
        for (int code : new int[] {48 + 256, 48 + 65536, 48 - 256, 48 - 128, 48 + 128}) {
            Check.refusedOf(States::some, "append", ARGUMENT, (x, value) -> x.append(value), code);
        }
    }

    private static void addMirrorUpstream() {
        for (int i = 0; i <= 5; i++) {
            int mirrors = i;
            Check.Call call = (x, upstream) -> x.mirror(x.addMirror(1, 1, 0, upstream, 1, true), 3);
            keptRange("addMirror below one of " + i, () -> States.of(1, 2, 1, mirrors, 0), call, NONE, mirrors - 1,
                    BOUNDS);
        }
    }

    private static void addMirrorSections() {
        for (int i = 1; i <= 5; i++) {
            int sections = i;
            Supplier<ArchiveMirrors> make = () -> States.of(sections, 2, 1, 1, 1);
            Check.Call call = (x, set) -> x.mirror(x.addMirror(set, 1, 0, NONE, 1, true), 0);
            sets("addMirror for sections of " + i, make, call, sections);
            keptRange("addMirror for sections of " + i, make, call, 1, (1 << sections) - 1, ARGUMENT);
        }
    }

    private static void addMirrorTimes() {
        keptRange("addMirror with an interval", States::some,
                (x, interval) -> x.mirror(x.addMirror(1, interval, 0, NONE, 1, true), 1), 1, 60, ARGUMENT);
        for (int i : new int[] {1, 2, 7, 59, 60}) {
            keptRange("addMirror with the interval " + i + " and an offset", States::some,
                    (x, offset) -> x.mirror(x.addMirror(1, i, offset, NONE, 1, true), 2), 0, i - 1, ARGUMENT);
        }
        // An offset that would be right if the interval were.
        for (int interval : new int[] {0, -1, 61, 100}) {
            Check.refusedOf(States::some, "addMirror with an offset below its interval", ARGUMENT,
                    (x, value) -> x.addMirror(1, value, value - 1, NONE, 1, true), interval);
        }
    }

    private static void addMirrorCapacity() {
        range("addMirror with a capacity", States::some,
                (x, capacity) -> x.addMirror(1, 1, 0, NONE, capacity, false), 1, 200, ARGUMENT);
    }

    private static void mirrorNumbers() {
        for (int i : new int[] {0, 1, 5, 6}) {
            Supplier<ArchiveMirrors> make = () -> States.of(2, 3, 2, i, 0);
            range("tamper of " + i, make, (x, mirror) -> x.tamper(mirror), 0, i - 1, BOUNDS);
            range("mirror of " + i, make, (x, mirror) -> x.mirror(mirror, 0), 0, i - 1, BOUNDS);
            range("files of " + i, make, (x, mirror) -> x.files(mirror, 0), 0, i - 1, BOUNDS);
            range("removeFile from one of " + i, make, (x, mirror) -> x.removeFile(mirror, 0, 2), 0, i - 1, BOUNDS);
        }
    }

    /** The version is no index: one that the mirror does not have is refused for the state, wherever it lies. */
    private static void removeFile() {
        Supplier<ArchiveMirrors> make = () -> States.of(1, 2, 1, 1, 0);
        range("removeFile of version 2", make, (x, version) -> x.removeFile(0, 0, version), 2, 2, STATE);
        for (int version : new int[] {-31, -30, -1, 0, 30, 31, 32, 33, 34, 66}) {
            Check.refusedOf(make, "removeFile of a version", STATE, (x, value) -> x.removeFile(0, 0, value), version);
        }
        for (int i : new int[] {1, 12}) {
            range("removeFile of a package of " + i, () -> States.of(1, i, 1, 1, 0),
                    (x, number) -> x.removeFile(0, number, number == 0 ? 2 : 1), 0, i - 1, BOUNDS);
        }
    }

    private static void pass() {
        Check.Call call = (x, minutes) -> {
            int before = x.count(5);
            x.pass(minutes);
            return x.count(5) - before;
        };
        keptRange("pass", States::some, call, 1, 200, ARGUMENT);
    }

    private static void packageNumbers() {
        for (int i : new int[] {0, 1, 12}) {
            Supplier<ArchiveMirrors> make = () -> States.of(1, i, 0, 1, 1);
            range("packageAt of " + i, make, (x, number) -> x.packageAt(number, 1), 0, i - 1, BOUNDS);
            range("files of a package of " + i, make, (x, number) -> x.files(0, number), 0, i - 1, BOUNDS);
        }
    }

    private static void addClient() {
        for (int i = 0; i <= 6; i++) {
            int mirrors = i;
            Supplier<ArchiveMirrors> make = () -> States.of(1, 2, 1, mirrors, 0);
            Check.Call call = (x, set) -> x.client(x.addClient(set), 0);
            sets("addClient for mirrors of " + i, make, call, mirrors);
            keptRange("addClient for mirrors of " + i, make, call, 1, (1 << mirrors) - 1, ARGUMENT);
        }
    }

    private static void clientNumbers() {
        for (int i : new int[] {0, 1, 3, 4}) {
            Supplier<ArchiveMirrors> make = () -> States.of(1, 2, 1, 1, i);
            range("install by one of " + i, make, (x, client) -> x.install(client, 0), 0, i - 1, BOUNDS);
            range("ifInstalled by one of " + i, make, (x, client) -> x.ifInstalled(client, 0, 0), 0, i - 1, BOUNDS);
            range("until by one of " + i, make, (x, client) -> x.until(client, 0), 0, i - 1, BOUNDS);
            range("client of " + i, make, (x, client) -> x.client(client, 0), 0, i - 1, BOUNDS);
        }
    }

    /** The set may be empty, also where there is no package at all. */
    private static void packageSets() {
        for (int i : new int[] {0, 1, 2, 11, 12}) {
            Supplier<ArchiveMirrors> make = () -> States.of(1, i, 0, 1, 1);
            sets("install of packages of " + i, make, (x, set) -> x.install(0, set), i);
            sets("ifInstalled of packages of " + i, make, (x, set) -> x.ifInstalled(0, set, 0), i);
            sets("until of packages of " + i, make, (x, set) -> x.until(0, set), i);
            allowed(make, "install", (x, set) -> x.install(0, set), 0);
            allowed(make, "ifInstalled", (x, set) -> x.ifInstalled(0, set, 0), 0);
            allowed(make, "until", (x, set) -> x.until(0, set), 0);
        }
    }

    private static void kinds() {
        range("mirror, what", States::some, (x, what) -> x.mirror(1, what), 0, 10, ARGUMENT);
        range("ifInstalled, what", States::some, (x, what) -> x.ifInstalled(1, 7, what), 0, 4, ARGUMENT);
        range("count, what", States::some, (x, what) -> x.count(what), 0, 9, ARGUMENT);
        range("count of a new object, what", ArchiveMirrors::new, (x, what) -> x.count(what), 0, 9, ARGUMENT);
        range("packageAt, what", States::some, (x, what) -> x.packageAt(2, what), 0, 5, ARGUMENT);
    }

    /** Where what tells a package too, it ends with the last package that there is. */
    private static void kindsByPackages() {
        for (int i : new int[] {0, 1, 12}) {
            range("client, what, of " + i + " packages", () -> States.of(1, i, 0, 1, 1),
                    (x, what) -> x.client(0, what), 0, 2 + i, ARGUMENT);
        }
        for (int i : new int[] {1, 2, 12}) {
            range("index, what, of " + i + " packages", () -> States.of(1, i, 2, 0, 0),
                    (x, what) -> x.index(1, what), 0, 3 + i, ARGUMENT);
        }
        Supplier<ArchiveMirrors> later = () -> {
            ArchiveMirrors x = States.of(1, 2, 1, 1, 1);
            x.addPackage(0, 1, 0);
            return x;
        };
        range("client, what, with a package more", later, (x, what) -> x.client(0, what), 0, 5, ARGUMENT);
        range("index, what, with a package more", later, (x, what) -> x.index(1, what), 0, 6, ARGUMENT);
    }

    private static void indexNumbers() {
        for (int i : new int[] {0, 1, 19, 20}) {
            range("index of " + i, () -> States.of(1, 1, i, 1, 0), (x, index) -> x.index(index, 0), 1, i, BOUNDS);
        }
    }
}
