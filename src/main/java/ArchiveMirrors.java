/**
 * Mirrors of a package archive: numbered indexes with signatures, mirrors that pull at their own
 * times, and clients that install only sets that belong to one index that is fresh enough.
 *
 * All rows are made in the constructor and used again, so that no call makes objects.
 */
public final class ArchiveMirrors {
    /** There is no such number; as an upstream, the archive. */
    public static final int NONE = -1;

    private static final int MAX_SECTIONS = 5;
    private static final int MAX_PACKAGES = 12;
    private static final int MAX_SIZE = 99;
    private static final int MAX_VERSION = 30;
    private static final int MAX_INDEXES = 20;
    private static final int MAX_VALIDITY = 999;
    private static final int FIRST_VALIDITY = 60;
    private static final int MAX_INPUT = 60;
    private static final int MAX_MIRRORS = 6;
    private static final int MAX_INTERVAL = 60;
    private static final int MAX_CAPACITY = 200;
    private static final int MAX_PASS = 200;
    private static final int MAX_CLIENTS = 4;
    private static final int MAX_WAIT = 60;

    private static final int COUNT_KINDS = 10;
    private static final int PACKAGE_KINDS = 6;
    private static final int INDEX_KINDS = 4;
    private static final int MIRROR_KINDS = 11;
    private static final int CLIENT_KINDS = 3;
    private static final int PLAN_KINDS = 5;

    private static final int ACCEPTED = 0;
    private static final int NO_FRESH_INDEX = 1;
    private static final int OLDER_INDEX = 2;
    private static final int NOT_IN_INDEX = 3;
    private static final int NO_FILE = 4;

    private final Archive archive;
    private final Network network;
    private final Network forecast;
    private final Client[] clients;
    private final Plan plan;
    private final InputText input;
    private int clientCount;

    public ArchiveMirrors() {
        archive = new Archive();
        network = new Network(archive);
        forecast = new Network(archive);
        clients = new Client[MAX_CLIENTS];
        for (int i = 0; i < clients.length; i++) {
            clients[i] = new Client();
        }
        plan = new Plan(archive);
        input = new InputText();
    }

    // ---- the archive

    public int begin(int sections) throws IllegalArgumentException {
        if (sections < 1 || sections > MAX_SECTIONS) {
            throw new IllegalArgumentException("sections is not 1 to 5");
        }
        int previous = archive.sections;
        archive.restart(sections);
        network.restart();
        clientCount = 0;
        return previous;
    }

    public int addPackage(int section, int size, int dependencies)
            throws IndexOutOfBoundsException, IllegalArgumentException, IllegalStateException {
        if (section < 0 || section >= archive.sections) {
            throw new IndexOutOfBoundsException("no such section");
        }
        if (size < 1 || size > MAX_SIZE) {
            throw new IllegalArgumentException("size is not 1 to 99");
        }
        requirePackages(dependencies);
        if (archive.packCount >= MAX_PACKAGES) {
            throw new IllegalStateException("there are 12 packages");
        }
        return archive.addPack(section, size, dependencies);
    }

    public int publish(int number) throws IndexOutOfBoundsException, IllegalStateException {
        requirePackage(number);
        if (archive.packs[number].version >= MAX_VERSION) {
            throw new IllegalStateException("the version is 30");
        }
        archive.packs[number].version++;
        return archive.packs[number].version;
    }

    public int release() throws IllegalStateException {
        if (archive.packCount == 0) {
            throw new IllegalStateException("there are no packages");
        }
        if (archive.indexCount >= MAX_INDEXES) {
            throw new IllegalStateException("there are 20 indexes");
        }
        return archive.addIndex(network.time);
    }

    public int setValidity(int minutes) throws IllegalArgumentException {
        if (minutes < 1 || minutes > MAX_VALIDITY) {
            throw new IllegalArgumentException("minutes is not 1 to 999");
        }
        int previous = archive.validity;
        archive.validity = minutes;
        return previous;
    }

    // ---- input

    public int append(int code) throws IllegalArgumentException, IllegalStateException {
        if (code < 32 || code > 126) {
            throw new IllegalArgumentException("code is not 32 to 126");
        }
        if (input.length >= MAX_INPUT) {
            throw new IllegalStateException("the buffer has 60 characters");
        }
        input.put(code);
        return input.length;
    }

    public int clearInput() {
        int previous = input.length;
        input.length = 0;
        return previous;
    }

    public int firstError() {
        return input.firstWrong(archive);
    }

    public int load() throws IllegalArgumentException {
        if (!input.isComplete(archive)) {
            throw new IllegalArgumentException("the buffer is not a complete text");
        }
        int before = archive.packCount;
        input.addPacksTo(archive);
        input.length = 0;
        return archive.packCount - before;
    }

    // ---- mirrors

    public int addMirror(int sections, int interval, int offset, int upstream, int capacity, boolean careful)
            throws IndexOutOfBoundsException, IllegalArgumentException, IllegalStateException {
        if (upstream < NONE || upstream >= network.mirrorCount) {
            throw new IndexOutOfBoundsException("no such upstream");
        }
        if (sections == 0 || hasBitFrom(sections, archive.sections)) {
            throw new IllegalArgumentException("sections is empty or has one that does not exist");
        }
        if (interval < 1 || interval > MAX_INTERVAL) {
            throw new IllegalArgumentException("interval is not 1 to 60");
        }
        if (offset < 0 || offset >= interval) {
            throw new IllegalArgumentException("offset is not 0 to interval minus 1");
        }
        if (capacity < 1 || capacity > MAX_CAPACITY) {
            throw new IllegalArgumentException("capacity is not 1 to 200");
        }
        if (network.mirrorCount >= MAX_MIRRORS) {
            throw new IllegalStateException("there are 6 mirrors");
        }
        int number = network.mirrorCount;
        network.mirrors[number].restart(sections, interval, offset, upstream, capacity, careful);
        network.mirrorCount++;
        return number;
    }

    public int tamper(int mirror) throws IndexOutOfBoundsException, IllegalStateException {
        requireMirror(mirror);
        Mirror changed = network.mirrors[mirror];
        if (changed.indexNumber == 0) {
            throw new IllegalStateException("the mirror has no index");
        }
        changed.tampered = true;
        return changed.indexNumber;
    }

    public int removeFile(int mirror, int number, int version)
            throws IndexOutOfBoundsException, IllegalStateException {
        requireMirror(mirror);
        requirePackage(number);
        Mirror changed = network.mirrors[mirror];
        if (!changed.hasFile(number, version)) {
            throw new IllegalStateException("the mirror does not have this file");
        }
        changed.dropFile(number, version);
        return changed.fileCount();
    }

    public int pass(int minutes) throws IllegalArgumentException {
        if (minutes < 1 || minutes > MAX_PASS) {
            throw new IllegalArgumentException("minutes is not 1 to 200");
        }
        int before = network.copied;
        for (int i = 0; i < minutes; i++) {
            network.passMinute();
        }
        return network.copied - before;
    }

    public int mirror(int mirror, int what) throws IndexOutOfBoundsException, IllegalArgumentException {
        requireMirror(mirror);
        requireKind(what, MIRROR_KINDS);
        return network.propertyOf(mirror, what);
    }

    public int files(int mirror, int number) throws IndexOutOfBoundsException {
        requireMirror(mirror);
        requirePackage(number);
        return network.mirrors[mirror].versions[number];
    }

    // ---- clients

    public int addClient(int mirrors) throws IllegalArgumentException, IllegalStateException {
        if (mirrors == 0 || hasBitFrom(mirrors, network.mirrorCount)) {
            throw new IllegalArgumentException("mirrors is empty or has one that does not exist");
        }
        if (clientCount >= MAX_CLIENTS) {
            throw new IllegalStateException("there are 4 clients");
        }
        int number = clientCount;
        clients[number].restart(mirrors);
        clientCount++;
        return number;
    }

    public int install(int client, int packages) throws IndexOutOfBoundsException, IllegalArgumentException {
        requireClient(client);
        requirePackages(packages);
        plan.draw(clients[client], packages, network);
        if (plan.reason == ACCEPTED) {
            plan.carryOut(clients[client]);
        }
        return plan.reason;
    }

    public int ifInstalled(int client, int packages, int what)
            throws IndexOutOfBoundsException, IllegalArgumentException {
        requireClient(client);
        requirePackages(packages);
        requireKind(what, PLAN_KINDS);
        plan.draw(clients[client], packages, network);
        return planned(clients[client], what);
    }

    public int until(int client, int packages) throws IndexOutOfBoundsException, IllegalArgumentException {
        requireClient(client);
        requirePackages(packages);
        return minutesToAcceptance(clients[client], packages);
    }

    public int client(int client, int what) throws IndexOutOfBoundsException, IllegalArgumentException {
        requireClient(client);
        requireKind(what, CLIENT_KINDS + archive.packCount);
        return clients[client].property(what);
    }

    // ---- what there is

    public int count(int what) throws IllegalArgumentException {
        requireKind(what, COUNT_KINDS);
        return counted(what);
    }

    public int packageAt(int number, int what) throws IndexOutOfBoundsException, IllegalArgumentException {
        requirePackage(number);
        requireKind(what, PACKAGE_KINDS);
        return packageProperty(number, what);
    }

    public int index(int index, int what) throws IndexOutOfBoundsException, IllegalArgumentException {
        if (index < 1 || index > archive.indexCount) {
            throw new IndexOutOfBoundsException("no such index");
        }
        requireKind(what, INDEX_KINDS + archive.packCount);
        return indexProperty(index, what);
    }

    public double meanAge() {
        double sum = 0.0;
        int aged = 0;
        for (int i = 0; i < network.mirrorCount; i++) {
            Mirror mirror = network.mirrors[i];
            if (mirror.hasGoodIndex()) {
                sum += network.time - archive.releaseTime(mirror.indexNumber);
                aged++;
            }
        }
        return aged == 0 ? 0.0 : sum / aged;
    }

    public long digest() {
        long hash = 1999;
        for (int what = 0; what < COUNT_KINDS; what++) {
            hash = mix(hash, counted(what));
        }
        hash = mixPackages(hash);
        hash = mixIndexes(hash);
        hash = mixMirrors(hash);
        hash = mixClients(hash);
        hash = mix(hash, input.length);
        for (int i = 0; i < input.length; i++) {
            hash = mix(hash, input.codes[i]);
        }
        return hash;
    }

    // ---- what a call needs

    private static boolean hasBitFrom(int set, int bound) {
        // The unsigned shift leaves the sign bit of a negative set, so that it is found too.
        return set >>> bound != 0;
    }

    private static void requireKind(int what, int kinds) {
        if (what < 0 || what >= kinds) {
            throw new IllegalArgumentException("what is out of range");
        }
    }

    private void requirePackage(int number) {
        if (number < 0 || number >= archive.packCount) {
            throw new IndexOutOfBoundsException("no such package");
        }
    }

    private void requirePackages(int set) {
        if (hasBitFrom(set, archive.packCount)) {
            throw new IllegalArgumentException("the set has a package that does not exist");
        }
    }

    private void requireMirror(int number) {
        if (number < 0 || number >= network.mirrorCount) {
            throw new IndexOutOfBoundsException("no such mirror");
        }
    }

    private void requireClient(int number) {
        if (number < 0 || number >= clientCount) {
            throw new IndexOutOfBoundsException("no such client");
        }
    }

    // ---- what a call answers

    private int counted(int what) {
        switch (what) {
            case 0: return archive.sections;
            case 1: return archive.packCount;
            case 2: return archive.indexCount;
            case 3: return network.mirrorCount;
            case 4: return clientCount;
            case 5: return network.time;
            case 6: return archive.validity;
            case 7: return network.completeMirrors();
            case 8: return network.fileCount();
            default: return network.copied;
        }
    }

    private int packageProperty(int number, int what) {
        Pack pack = archive.packs[number];
        switch (what) {
            case 0: return pack.section;
            case 1: return pack.size;
            case 2: return pack.dependencies;
            case 3: return pack.version;
            case 4: return pack.closure;
            default: return network.mirrorsWith(number, pack.version);
        }
    }

    private int indexProperty(int number, int what) {
        switch (what) {
            case 0: return archive.releaseTime(number);
            case 1: return archive.packsIn(number);
            case 2: return archive.signatureOf(number);
            case 3: return archive.isFresh(number, network.time) ? 1 : 0;
            default: return archive.versionIn(number, what - INDEX_KINDS);
        }
    }

    private int planned(Client client, int what) {
        switch (what) {
            case 0: return plan.reason;
            case 1: return plan.indexNumber;
            case 2: return plan.wanted;
            case 3: return plan.changedSize(client);
            default: return plan.fewestMirrors(client);
        }
    }

    private int minutesToAcceptance(Client client, int packages) {
        forecast.copyFrom(network);
        plan.draw(client, packages, forecast);
        for (int minutes = 0; minutes < MAX_WAIT; minutes++) {
            if (plan.reason == ACCEPTED) {
                return minutes;
            }
            forecast.passMinute();
            plan.draw(client, packages, forecast);
        }
        return plan.reason == ACCEPTED ? MAX_WAIT : NONE;
    }

    // ---- the hash of the whole state

    private static long mix(long hash, long value) {
        return 31 * hash + value;
    }

    private long mixPackages(long start) {
        long hash = start;
        for (int number = 0; number < archive.packCount; number++) {
            for (int what = 0; what < PACKAGE_KINDS; what++) {
                hash = mix(hash, packageProperty(number, what));
            }
        }
        return hash;
    }

    private long mixIndexes(long start) {
        long hash = start;
        for (int number = 1; number <= archive.indexCount; number++) {
            int kinds = INDEX_KINDS + archive.packsIn(number);
            for (int what = 0; what < kinds; what++) {
                hash = mix(hash, indexProperty(number, what));
            }
        }
        return hash;
    }

    private long mixMirrors(long start) {
        long hash = start;
        for (int number = 0; number < network.mirrorCount; number++) {
            for (int what = 0; what < MIRROR_KINDS; what++) {
                hash = mix(hash, network.propertyOf(number, what));
            }
            for (int pack = 0; pack < archive.packCount; pack++) {
                hash = mix(hash, network.mirrors[number].versions[pack]);
            }
        }
        return hash;
    }

    private long mixClients(long start) {
        long hash = start;
        int kinds = CLIENT_KINDS + archive.packCount;
        for (int number = 0; number < clientCount; number++) {
            Client client = clients[number];
            for (int what = 0; what < kinds; what++) {
                hash = mix(hash, client.property(what));
            }
            plan.draw(client, 0, network);
            for (int what = 0; what < PLAN_KINDS; what++) {
                hash = mix(hash, planned(client, what));
            }
            hash = mix(hash, minutesToAcceptance(client, 0));
        }
        return hash;
    }

    /** A package of the archive. */
    private static final class Pack {
        int section;
        int size;
        int dependencies;
        int closure;
        int version;
    }

    /** An index, with version 0 for each package that is not in it. */
    private static final class Index {
        final int[] versions = new int[MAX_PACKAGES];
        int packCount;
        int time;
        int signature;
    }

    /** The packages and the indexes. */
    private static final class Archive {
        final Pack[] packs = new Pack[MAX_PACKAGES];
        final Index[] indexes = new Index[MAX_INDEXES];
        int sections;
        int packCount;
        int indexCount;
        int validity;

        Archive() {
            for (int i = 0; i < packs.length; i++) {
                packs[i] = new Pack();
            }
            for (int i = 0; i < indexes.length; i++) {
                indexes[i] = new Index();
            }
            sections = 1;
            validity = FIRST_VALIDITY;
        }

        void restart(int newSections) {
            sections = newSections;
            packCount = 0;
            indexCount = 0;
            validity = FIRST_VALIDITY;
        }

        int addPack(int section, int size, int dependencies) {
            if (packCount >= packs.length) {
                return NONE;
            }
            int number = packCount;
            Pack added = packs[number];
            added.section = section;
            added.size = size;
            added.dependencies = dependencies;
            added.closure = closureOf(dependencies) | 1 << number;
            added.version = 1;
            packCount++;
            return number;
        }

        int addIndex(int time) {
            if (indexCount >= indexes.length) {
                return NONE;
            }
            Index added = indexes[indexCount];
            indexCount++;
            added.time = time;
            added.packCount = packCount;
            for (int i = 0; i < packs.length; i++) {
                added.versions[i] = i < packCount ? packs[i].version : 0;
            }
            added.signature = sign(added, indexCount);
            return indexCount;
        }

        private static int sign(Index signed, int number) {
            int signature = 17;
            for (int i = 0; i < signed.packCount; i++) {
                signature = (31 * signature + signed.versions[i]) % 65521;
            }
            return (2003 * signature + number) % 65521;
        }

        int closureOf(int set) {
            int closure = 0;
            for (int i = 0; i < packCount; i++) {
                if ((set >> i & 1) != 0) {
                    closure |= packs[i].closure;
                }
            }
            return closure;
        }

        private boolean hasIndex(int number) {
            return number >= 1 && number <= indexCount;
        }

        int releaseTime(int number) {
            return hasIndex(number) ? indexes[number - 1].time : 0;
        }

        int packsIn(int number) {
            return hasIndex(number) ? indexes[number - 1].packCount : 0;
        }

        int signatureOf(int number) {
            return hasIndex(number) ? indexes[number - 1].signature : 0;
        }

        boolean isFresh(int number, int time) {
            return hasIndex(number) && time - indexes[number - 1].time <= validity;
        }

        /** The version that an index tells of a package; 0 if there is no such index or package in it. */
        int versionIn(int number, int pack) {
            if (number < 1 || number > indexCount || pack < 0 || pack >= MAX_PACKAGES) {
                return 0;
            }
            return indexes[number - 1].versions[pack];
        }
    }

    /** A mirror: its versions hold bit v of element n for the file of package n with version v. */
    private static final class Mirror {
        final int[] versions = new int[MAX_PACKAGES];
        int sections;
        int interval;
        int offset;
        int upstream;
        int capacity;
        boolean careful;
        int indexNumber;
        boolean tampered;

        void restart(int newSections, int newInterval, int newOffset, int newUpstream, int newCapacity,
                boolean newCareful) {
            sections = newSections;
            interval = newInterval;
            offset = newOffset;
            upstream = newUpstream;
            capacity = newCapacity;
            careful = newCareful;
            indexNumber = 0;
            tampered = false;
            for (int i = 0; i < versions.length; i++) {
                versions[i] = 0;
            }
        }

        void copyFrom(Mirror other) {
            sections = other.sections;
            interval = other.interval;
            offset = other.offset;
            upstream = other.upstream;
            capacity = other.capacity;
            careful = other.careful;
            indexNumber = other.indexNumber;
            tampered = other.tampered;
            for (int i = 0; i < versions.length; i++) {
                versions[i] = other.versions[i];
            }
        }

        boolean hasGoodIndex() {
            return indexNumber > 0 && !tampered;
        }

        void takeIndex(int number) {
            indexNumber = number;
            tampered = false;
        }

        boolean pullsAt(int time) {
            return interval > 0 && time % interval == offset;
        }

        int minutesToPull(int time) {
            if (interval <= 0) {
                return 1;
            }
            int minutes = Math.floorMod(offset - time, interval);
            return minutes == 0 ? interval : minutes;
        }

        boolean hasFile(int pack, int version) {
            boolean possible = pack >= 0 && pack < versions.length && version >= 1 && version <= MAX_VERSION;
            return possible && (versions[pack] >> version & 1) != 0;
        }

        /** Whether it should have this file, by the section of the package, and does not. */
        boolean lacks(int section, int pack, int version) {
            boolean possible = pack >= 0 && pack < versions.length && version >= 1 && version <= MAX_VERSION;
            return possible && (sections >> section & 1) != 0 && (versions[pack] >> version & 1) == 0;
        }

        void addFile(int pack, int version) {
            if (pack >= 0 && pack < versions.length) {
                versions[pack] |= 1 << version;
            }
        }

        void dropFile(int pack, int version) {
            if (pack >= 0 && pack < versions.length) {
                versions[pack] &= ~(1 << version);
            }
        }

        /** Version 0, of a package that is in no index, leaves no file: no file has bit 0. */
        void dropOtherVersions(int pack, int version) {
            if (pack >= 0 && pack < versions.length) {
                versions[pack] &= 1 << version;
            }
        }

        int fileCount() {
            int files = 0;
            for (int i = 0; i < versions.length; i++) {
                files += Integer.bitCount(versions[i]);
            }
            return files;
        }
    }

    /** All mirrors at a time. There is a second one, in which calls look ahead without a change. */
    private static final class Network {
        final Archive archive;
        final Mirror[] mirrors = new Mirror[MAX_MIRRORS];
        int mirrorCount;
        int time;
        int copied;

        Network(Archive archive) {
            this.archive = archive;
            for (int i = 0; i < mirrors.length; i++) {
                mirrors[i] = new Mirror();
            }
        }

        void restart() {
            mirrorCount = 0;
            time = 0;
            copied = 0;
        }

        void copyFrom(Network other) {
            mirrorCount = other.mirrorCount;
            time = other.time;
            copied = other.copied;
            for (int i = 0; i < mirrorCount; i++) {
                mirrors[i].copyFrom(other.mirrors[i]);
            }
        }

        void passMinute() {
            time++;
            for (int i = 0; i < mirrorCount; i++) {
                if (mirrors[i].pullsAt(time)) {
                    pull(mirrors[i]);
                }
            }
        }

        private void pull(Mirror mirror) {
            int offered = offeredTo(mirror);
            if (offered == 0) {
                return;
            }
            int before = mirror.indexNumber;
            if (!mirror.careful) {
                mirror.takeIndex(offered);
            }
            copyMissing(mirror, offered);
            if (mirror.careful && missingOf(mirror, offered) == 0) {
                mirror.takeIndex(offered);
            }
            if (mirror.indexNumber != before) {
                dropOldFiles(mirror);
            }
        }

        /** The mirror from which a mirror pulls, null for the archive. */
        private Mirror upstreamOf(Mirror mirror) {
            return mirror.upstream >= 0 && mirror.upstream < mirrorCount ? mirrors[mirror.upstream] : null;
        }

        /** The number of the index that a pull would offer, 0 if nothing would happen. */
        private int offeredTo(Mirror mirror) {
            Mirror upstream = upstreamOf(mirror);
            if (upstream == null) {
                return archive.indexCount;
            }
            return upstream.hasGoodIndex() ? upstream.indexNumber : 0;
        }

        private void copyMissing(Mirror mirror, int offered) {
            Mirror upstream = upstreamOf(mirror);
            int left = mirror.capacity;
            for (int i = 0; i < archive.packCount; i++) {
                Pack pack = archive.packs[i];
                int version = archive.versionIn(offered, i);
                // The archive has the files of all versions, so also those that an index tells.
                boolean had = upstream == null || upstream.hasFile(i, version);
                if (had && pack.size <= left && mirror.lacks(pack.section, i, version)) {
                    mirror.addFile(i, version);
                    left -= pack.size;
                    copied++;
                }
            }
        }

        private int missingOf(Mirror mirror, int indexNumber) {
            int missing = 0;
            for (int i = 0; i < archive.packCount; i++) {
                if (mirror.lacks(archive.packs[i].section, i, archive.versionIn(indexNumber, i))) {
                    missing++;
                }
            }
            return missing;
        }

        private void dropOldFiles(Mirror mirror) {
            for (int i = 0; i < archive.packCount; i++) {
                mirror.dropOtherVersions(i, archive.versionIn(mirror.indexNumber, i));
            }
        }

        private boolean isComplete(Mirror mirror) {
            return mirror.hasGoodIndex() && missingOf(mirror, mirror.indexNumber) == 0;
        }

        int completeMirrors() {
            int complete = 0;
            for (int i = 0; i < mirrorCount; i++) {
                if (isComplete(mirrors[i])) {
                    complete++;
                }
            }
            return complete;
        }

        int fileCount() {
            int files = 0;
            for (int i = 0; i < mirrorCount; i++) {
                files += mirrors[i].fileCount();
            }
            return files;
        }

        int mirrorsWith(int pack, int version) {
            int having = 0;
            for (int i = 0; i < mirrorCount; i++) {
                if (mirrors[i].hasFile(pack, version)) {
                    having++;
                }
            }
            return having;
        }

        int propertyOf(int number, int what) {
            Mirror mirror = mirrors[number];
            switch (what) {
                case 0: return mirror.sections;
                case 1: return mirror.interval;
                case 2: return mirror.offset;
                case 3: return mirror.upstream;
                case 4: return mirror.indexNumber;
                case 5: return mirror.tampered ? 1 : 0;
                case 6: return missingOf(mirror, mirror.indexNumber);
                case 7: return mirror.fileCount();
                case 8: return mirror.minutesToPull(time);
                case 9: return archive.indexCount - mirror.indexNumber;
                default: return isComplete(mirror) ? 1 : 0;
            }
        }

        /** The greatest number of an index of these mirrors that is right and fresh, 0 if there is none. */
        int latestFreshIndex(int set) {
            int latest = 0;
            for (int i = 0; i < mirrorCount; i++) {
                Mirror mirror = mirrors[i];
                if ((set >> i & 1) != 0 && mirror.hasGoodIndex() && archive.isFresh(mirror.indexNumber, time)) {
                    latest = Math.max(latest, mirror.indexNumber);
                }
            }
            return latest;
        }

        /** Those of the wanted packages whose file, with the version of the index, a mirror has. */
        int foundAt(int number, int indexNumber, int wanted) {
            int found = 0;
            for (int i = 0; i < archive.packCount; i++) {
                if ((wanted >> i & 1) != 0 && mirrors[number].hasFile(i, archive.versionIn(indexNumber, i))) {
                    found |= 1 << i;
                }
            }
            return found;
        }
    }

    /** A client: its versions are those that it has installed, 0 for none. */
    private static final class Client {
        final int[] versions = new int[MAX_PACKAGES];
        int mirrors;
        int latestIndex;

        void restart(int newMirrors) {
            mirrors = newMirrors;
            latestIndex = 0;
            for (int i = 0; i < versions.length; i++) {
                versions[i] = 0;
            }
        }

        int installedSet() {
            int set = 0;
            for (int i = 0; i < versions.length; i++) {
                if (versions[i] > 0) {
                    set |= 1 << i;
                }
            }
            return set;
        }

        int property(int what) {
            switch (what) {
                case 0: return mirrors;
                case 1: return latestIndex;
                case 2: return installedSet();
                default: return versionOf(what - CLIENT_KINDS);
            }
        }

        private int versionOf(int pack) {
            return pack >= 0 && pack < versions.length ? versions[pack] : 0;
        }
    }

    /** What a client would do if it installed packages; drawn anew for each question. */
    private static final class Plan {
        private final Archive archive;
        private final int[] found = new int[MAX_MIRRORS];
        int reason;
        int indexNumber;
        int wanted;

        Plan(Archive archive) {
            this.archive = archive;
        }

        void draw(Client client, int packages, Network network) {
            wanted = archive.closureOf(packages | client.installedSet());
            indexNumber = network.latestFreshIndex(client.mirrors);
            for (int i = 0; i < found.length; i++) {
                boolean used = i < network.mirrorCount && (client.mirrors >> i & 1) != 0;
                found[i] = used ? network.foundAt(i, indexNumber, wanted) : 0;
            }
            reason = reasonFor(client);
        }

        private int reasonFor(Client client) {
            if (indexNumber == 0) {
                return NO_FRESH_INDEX;
            }
            if (indexNumber < client.latestIndex) {
                return OLDER_INDEX;
            }
            if (hasBitFrom(wanted, archive.packsIn(indexNumber))) {
                return NOT_IN_INDEX;
            }
            return foundTogether(client.mirrors) == wanted ? ACCEPTED : NO_FILE;
        }

        private int foundTogether(int set) {
            int together = 0;
            for (int i = 0; i < found.length; i++) {
                if ((set >> i & 1) != 0) {
                    together |= found[i];
                }
            }
            return together;
        }

        void carryOut(Client client) {
            for (int i = 0; i < MAX_PACKAGES; i++) {
                if ((wanted >> i & 1) != 0) {
                    client.versions[i] = archive.versionIn(indexNumber, i);
                }
            }
            client.latestIndex = indexNumber;
        }

        int changedSize(Client client) {
            if (reason != ACCEPTED) {
                return NONE;
            }
            int size = 0;
            for (int i = 0; i < MAX_PACKAGES; i++) {
                if ((wanted >> i & 1) != 0 && client.versions[i] != archive.versionIn(indexNumber, i)) {
                    size += archive.packs[i].size;
                }
            }
            return size;
        }

        int fewestMirrors(Client client) {
            if (reason != ACCEPTED) {
                return NONE;
            }
            int fewest = MAX_MIRRORS;
            for (int set = 0; set < 1 << MAX_MIRRORS; set++) {
                boolean used = (set & ~client.mirrors) == 0;
                if (used && foundTogether(set) == wanted) {
                    fewest = Math.min(fewest, Integer.bitCount(set));
                }
            }
            return fewest;
        }
    }

    /** The input buffer. */
    private static final class InputText {
        final int[] codes = new int[MAX_INPUT];
        final TextReader reader = new TextReader();
        int length;

        void put(int code) {
            if (length < codes.length) {
                codes[length] = code;
                length++;
            }
        }

        int firstWrong(Archive archive) {
            reader.restart(archive.sections, archive.packCount);
            for (int i = 0; i < length; i++) {
                if (!reader.reads(codes[i])) {
                    return i;
                }
            }
            return length;
        }

        boolean isComplete(Archive archive) {
            return firstWrong(archive) == length && reader.mayEnd();
        }

        /** Is called for a complete text only, so that each package that is read is whole. */
        void addPacksTo(Archive archive) {
            reader.restart(archive.sections, archive.packCount);
            for (int i = 0; i < length; i++) {
                if (codes[i] == ';') {
                    archive.addPack(reader.section, reader.size, reader.dependencies);
                }
                reader.reads(codes[i]);
            }
            archive.addPack(reader.section, reader.size, reader.dependencies);
        }
    }

    /** Reads a text of packages, a character at a time; holds what it has read of the last package. */
    private static final class TextReader {
        private static final int AT_SECTION = 0;
        private static final int AT_COLON = 1;
        private static final int AT_SIZE = 2;
        private static final int IN_SIZE = 3;
        private static final int AFTER_SIZE = 4;
        private static final int AT_LETTERS = 5;
        private static final int IN_LETTERS = 6;

        int section;
        int size;
        int dependencies;
        private int place;
        private int sections;
        private int number;

        void restart(int newSections, int packCount) {
            sections = newSections;
            startPack(packCount);
        }

        private void startPack(int newNumber) {
            number = newNumber;
            place = AT_SECTION;
            section = 0;
            size = 0;
            dependencies = 0;
        }

        boolean mayEnd() {
            return place == IN_SIZE || place == AFTER_SIZE || place == IN_LETTERS;
        }

        /** Reads a character if it is allowed at this place. */
        boolean reads(int code) {
            if (code == ';' && mayEnd()) {
                startPack(number + 1);
                return true;
            }
            switch (place) {
                case AT_SECTION: return readsSection(code);
                case AT_COLON: return readsSign(code, ':', AT_SIZE);
                case AT_SIZE: return code != '0' && readsDigit(code, IN_SIZE);
                case IN_SIZE: return readsDigit(code, AFTER_SIZE) || readsSign(code, '+', AT_LETTERS);
                case AFTER_SIZE: return readsSign(code, '+', AT_LETTERS);
                default: return readsLetter(code);
            }
        }

        private boolean readsSection(int code) {
            if (code < '0' || code >= '0' + sections || number >= MAX_PACKAGES) {
                return false;
            }
            section = code - '0';
            place = AT_COLON;
            return true;
        }

        private boolean readsSign(int code, int sign, int next) {
            if (code != sign) {
                return false;
            }
            place = next;
            return true;
        }

        private boolean readsDigit(int code, int next) {
            if (code < '0' || code > '9') {
                return false;
            }
            size = 10 * size + code - '0';
            place = next;
            return true;
        }

        private boolean readsLetter(int code) {
            int letter = code - 'a';
            // The set has no bit from this letter on if the letter is greater than those before it.
            if (letter < 0 || letter >= number || hasBitFrom(dependencies, letter)) {
                return false;
            }
            dependencies |= 1 << letter;
            place = IN_LETTERS;
            return true;
        }
    }
}
