import java.util.ArrayList;
import java.util.HashSet;
import java.util.List;
import java.util.Set;
import java.util.TreeSet;
import java.util.regex.Pattern;

/**
 * A second reading of the document, kept apart from the class: sets and texts instead of bit masks
 * and states, written for plainness alone. RandomRunsTest compares the two.
 */
final class Model {
    static final int NONE = -1;

    static final class Pack {
        int section;
        int size;
        int version = 1;
        final Set<Integer> dependencies = new TreeSet<>();
    }

    static final class Index {
        int time;
        final List<Integer> versions = new ArrayList<>();
    }

    static final class Mirror {
        final Set<Integer> sections = new TreeSet<>();
        int interval;
        int offset;
        int upstream;
        int capacity;
        boolean careful;
        int index;
        boolean tampered;
        Set<String> files = new HashSet<>();

        Mirror copy() {
            Mirror copy = new Mirror();
            copy.sections.addAll(sections);
            copy.interval = interval;
            copy.offset = offset;
            copy.upstream = upstream;
            copy.capacity = capacity;
            copy.careful = careful;
            copy.index = index;
            copy.tampered = tampered;
            copy.files.addAll(files);
            return copy;
        }
    }

    static final class Client {
        final Set<Integer> mirrors = new TreeSet<>();
        final int[] installed = new int[12];
        int latest;
    }

    int sections = 1;
    int validity = 60;
    int time;
    int copied;
    String text = "";
    List<Pack> packs = new ArrayList<>();
    List<Index> indexes = new ArrayList<>();
    List<Mirror> mirrors = new ArrayList<>();
    List<Client> clients = new ArrayList<>();

    private static String file(int pack, int version) {
        return (char) ('a' + pack) + " " + version;
    }

    private static int mask(Set<Integer> set) {
        int mask = 0;
        for (int i : set) {
            mask += 1 << i;
        }
        return mask;
    }

    private static Set<Integer> setOf(int mask) {
        Set<Integer> set = new TreeSet<>();
        for (int i = 0; i < 31; i++) {
            if ((mask & 1 << i) != 0) {
                set.add(i);
            }
        }
        return set;
    }

    private static void bounds(boolean right) {
        if (!right) {
            throw new IndexOutOfBoundsException();
        }
    }

    private static void argument(boolean right) {
        if (!right) {
            throw new IllegalArgumentException();
        }
    }

    private static void state(boolean right) {
        if (!right) {
            throw new IllegalStateException();
        }
    }

    private static boolean isSetBelow(int mask, int bound) {
        return mask >= 0 && mask < 1 << bound;
    }

    int begin(int newSections) {
        argument(newSections >= 1 && newSections <= 5);
        int previous = sections;
        sections = newSections;
        validity = 60;
        time = 0;
        copied = 0;
        packs = new ArrayList<>();
        indexes = new ArrayList<>();
        mirrors = new ArrayList<>();
        clients = new ArrayList<>();
        return previous;
    }

    int addPackage(int section, int size, int dependencies) {
        bounds(section >= 0 && section < sections);
        argument(size >= 1 && size <= 99 && isSetBelow(dependencies, packs.size()));
        state(packs.size() < 12);
        Pack pack = new Pack();
        pack.section = section;
        pack.size = size;
        pack.dependencies.addAll(setOf(dependencies));
        packs.add(pack);
        return packs.size() - 1;
    }

    int publish(int number) {
        bounds(number >= 0 && number < packs.size());
        state(packs.get(number).version < 30);
        return ++packs.get(number).version;
    }

    int release() {
        state(!packs.isEmpty() && indexes.size() < 20);
        Index index = new Index();
        index.time = time;
        for (Pack pack : packs) {
            index.versions.add(pack.version);
        }
        indexes.add(index);
        return indexes.size();
    }

    int setValidity(int minutes) {
        argument(minutes >= 1 && minutes <= 999);
        int previous = validity;
        validity = minutes;
        return previous;
    }

    int append(int code) {
        argument(code >= 32 && code <= 126);
        state(text.length() < 60);
        text += (char) code;
        return text.length();
    }

    int clearInput() {
        int length = text.length();
        text = "";
        return length;
    }

    /** The package with this number, whole or begun. */
    private boolean isPack(String part, int number, boolean whole) {
        String head = "[0-" + (char) ('0' + sections - 1) + "]";
        String all = head + ":[1-9][0-9]?(\\+[a-l]+)?";
        String begun = "|" + head + "?|" + head + ":|" + head + ":[1-9][0-9]?\\+";
        if (!Pattern.matches(whole ? all : all + begun, part) || number >= 12 && !part.isEmpty()) {
            return false;
        }
        int plus = part.indexOf('+');
        String letters = plus < 0 ? "" : part.substring(plus + 1);
        for (int i = 0; i < letters.length(); i++) {
            if (letters.charAt(i) >= 'a' + number || i > 0 && letters.charAt(i) <= letters.charAt(i - 1)) {
                return false;
            }
        }
        return true;
    }

    private boolean isText(String some, boolean whole) {
        String[] parts = some.split(";", -1);
        for (int i = 0; i < parts.length; i++) {
            if (!isPack(parts[i], packs.size() + i, whole || i < parts.length - 1)) {
                return false;
            }
        }
        return true;
    }

    int firstError() {
        for (int i = 0; i < text.length(); i++) {
            if (!isText(text.substring(0, i + 1), false)) {
                return i;
            }
        }
        return text.length();
    }

    int load() {
        argument(isText(text, true));
        String[] parts = text.split(";");
        for (String part : parts) {
            String[] halves = part.substring(2).split("\\+");
            int set = 0;
            for (int i = 0; halves.length > 1 && i < halves[1].length(); i++) {
                set |= 1 << halves[1].charAt(i) - 'a';
            }
            addPackage(part.charAt(0) - '0', Integer.parseInt(halves[0]), set);
        }
        text = "";
        return parts.length;
    }

    int addMirror(int carried, int interval, int offset, int upstream, int capacity, boolean careful) {
        bounds(upstream == NONE || upstream >= 0 && upstream < mirrors.size());
        argument(carried != 0 && isSetBelow(carried, sections) && interval >= 1 && interval <= 60);
        argument(offset >= 0 && offset <= interval - 1 && capacity >= 1 && capacity <= 200);
        state(mirrors.size() < 6);
        Mirror mirror = new Mirror();
        mirror.sections.addAll(setOf(carried));
        mirror.interval = interval;
        mirror.offset = offset;
        mirror.upstream = upstream;
        mirror.capacity = capacity;
        mirror.careful = careful;
        mirrors.add(mirror);
        return mirrors.size() - 1;
    }

    int tamper(int number) {
        bounds(number >= 0 && number < mirrors.size());
        state(mirrors.get(number).index != 0);
        mirrors.get(number).tampered = true;
        return mirrors.get(number).index;
    }

    int removeFile(int mirror, int number, int version) {
        bounds(mirror >= 0 && mirror < mirrors.size() && number >= 0 && number < packs.size());
        state(mirrors.get(mirror).files.remove(file(number, version)));
        return mirrors.get(mirror).files.size();
    }

    int pass(int minutes) {
        argument(minutes >= 1 && minutes <= 200);
        int before = copied;
        for (int i = 0; i < minutes; i++) {
            time++;
            for (Mirror mirror : mirrors) {
                if (time % mirror.interval == mirror.offset) {
                    pull(mirror);
                }
            }
        }
        return copied - before;
    }

    /** The files of an index that a mirror should have, in ascending order of the packages. */
    private List<Integer> packsFor(Mirror mirror, int index) {
        List<Integer> list = new ArrayList<>();
        for (int i = 0; index > 0 && i < indexes.get(index - 1).versions.size(); i++) {
            if (mirror.sections.contains(packs.get(i).section)) {
                list.add(i);
            }
        }
        return list;
    }

    private String fileIn(int index, int pack) {
        return file(pack, indexes.get(index - 1).versions.get(pack));
    }

    private int missing(Mirror mirror, int index) {
        int missing = 0;
        for (int pack : packsFor(mirror, index)) {
            missing += mirror.files.contains(fileIn(index, pack)) ? 0 : 1;
        }
        return missing;
    }

    private void pull(Mirror mirror) {
        Mirror upstream = mirror.upstream == NONE ? null : mirrors.get(mirror.upstream);
        int offered = upstream == null ? indexes.size() : upstream.index;
        if (offered == 0 || upstream != null && upstream.tampered) {
            return;
        }
        int before = mirror.index;
        int left = mirror.capacity;
        for (int pack : packsFor(mirror, offered)) {
            String file = fileIn(offered, pack);
            boolean there = upstream == null || upstream.files.contains(file);
            if (!mirror.files.contains(file) && there && packs.get(pack).size <= left) {
                mirror.files.add(file);
                left -= packs.get(pack).size;
                copied++;
            }
        }
        if (mirror.careful && missing(mirror, offered) > 0) {
            return;
        }
        mirror.index = offered;
        mirror.tampered = false;
        if (offered != before) {
            Set<String> told = new HashSet<>();
            for (int pack = 0; pack < indexes.get(offered - 1).versions.size(); pack++) {
                told.add(fileIn(offered, pack));
            }
            mirror.files.retainAll(told);
        }
    }

    private boolean isComplete(Mirror mirror) {
        return mirror.index > 0 && !mirror.tampered && missing(mirror, mirror.index) == 0;
    }

    int mirror(int number, int what) {
        bounds(number >= 0 && number < mirrors.size());
        argument(what >= 0 && what <= 10);
        Mirror mirror = mirrors.get(number);
        int minutes = 1;
        while ((time + minutes) % mirror.interval != mirror.offset) {
            minutes++;
        }
        int[] all = {mask(mirror.sections), mirror.interval, mirror.offset, mirror.upstream, mirror.index,
            mirror.tampered ? 1 : 0, missing(mirror, mirror.index), mirror.files.size(), minutes,
            indexes.size() - mirror.index, isComplete(mirror) ? 1 : 0};
        return all[what];
    }

    int files(int mirror, int number) {
        bounds(mirror >= 0 && mirror < mirrors.size() && number >= 0 && number < packs.size());
        int mask = 0;
        for (int version = 1; version <= 30; version++) {
            mask += mirrors.get(mirror).files.contains(file(number, version)) ? 1 << version : 0;
        }
        return mask;
    }

    int addClient(int used) {
        argument(used != 0 && isSetBelow(used, mirrors.size()));
        state(clients.size() < 4);
        Client client = new Client();
        client.mirrors.addAll(setOf(used));
        clients.add(client);
        return clients.size() - 1;
    }

    private void close(Set<Integer> set, int pack) {
        set.add(pack);
        for (int other : packs.get(pack).dependencies) {
            close(set, other);
        }
    }

    private Set<Integer> wanted(Client client, int packages) {
        Set<Integer> wanted = new TreeSet<>();
        for (int pack : setOf(packages)) {
            close(wanted, pack);
        }
        for (int pack = 0; pack < 12; pack++) {
            if (client.installed[pack] > 0) {
                wanted.add(pack);
            }
        }
        return wanted;
    }

    private int indexFor(Client client) {
        int best = 0;
        for (int number : client.mirrors) {
            Mirror mirror = mirrors.get(number);
            boolean good = mirror.index > best && !mirror.tampered;
            if (good && time - indexes.get(mirror.index - 1).time <= validity) {
                best = mirror.index;
            }
        }
        return best;
    }

    private boolean haveAll(Set<Integer> some, Set<Integer> wanted, int index) {
        Set<String> files = new HashSet<>();
        for (int mirror : some) {
            files.addAll(mirrors.get(mirror).files);
        }
        for (int pack : wanted) {
            if (!files.contains(fileIn(index, pack))) {
                return false;
            }
        }
        return true;
    }

    private int reason(Client client, int packages) {
        int index = indexFor(client);
        if (index == 0) {
            return 1;
        }
        if (index < client.latest) {
            return 2;
        }
        Set<Integer> wanted = wanted(client, packages);
        for (int pack : wanted) {
            if (pack >= indexes.get(index - 1).versions.size()) {
                return 3;
            }
        }
        return haveAll(client.mirrors, wanted, index) ? 0 : 4;
    }

    int install(int number, int packages) {
        bounds(number >= 0 && number < clients.size());
        argument(isSetBelow(packages, packs.size()));
        Client client = clients.get(number);
        int reason = reason(client, packages);
        if (reason == 0) {
            client.latest = indexFor(client);
            for (int pack : wanted(client, packages)) {
                client.installed[pack] = indexes.get(client.latest - 1).versions.get(pack);
            }
        }
        return reason;
    }

    int ifInstalled(int number, int packages, int what) {
        bounds(number >= 0 && number < clients.size());
        argument(isSetBelow(packages, packs.size()) && what >= 0 && what <= 4);
        Client client = clients.get(number);
        int reason = reason(client, packages);
        int index = indexFor(client);
        Set<Integer> wanted = wanted(client, packages);
        if (what <= 2) {
            return what == 0 ? reason : what == 1 ? index : mask(wanted);
        }
        if (reason != 0) {
            return NONE;
        }
        return what == 3 ? changedSize(client, wanted, index) : fewest(client, wanted, index);
    }

    private int changedSize(Client client, Set<Integer> wanted, int index) {
        int sum = 0;
        for (int pack : wanted) {
            sum += client.installed[pack] == indexes.get(index - 1).versions.get(pack) ? 0 : packs.get(pack).size;
        }
        return sum;
    }

    private int fewest(Client client, Set<Integer> wanted, int index) {
        int fewest = 7;
        for (int mask = 0; mask < 64; mask++) {
            Set<Integer> some = setOf(mask);
            if (client.mirrors.containsAll(some) && some.size() < fewest && haveAll(some, wanted, index)) {
                fewest = some.size();
            }
        }
        return fewest;
    }

    int until(int number, int packages) {
        bounds(number >= 0 && number < clients.size());
        argument(isSetBelow(packages, packs.size()));
        Model ahead = new Model();
        ahead.sections = sections;
        ahead.validity = validity;
        ahead.time = time;
        ahead.packs = packs;
        ahead.indexes = indexes;
        for (Mirror mirror : mirrors) {
            ahead.mirrors.add(mirror.copy());
        }
        for (int minutes = 0; minutes <= 60; minutes++) {
            if (ahead.reason(clients.get(number), packages) == 0) {
                return minutes;
            }
            ahead.pass(1);
        }
        return NONE;
    }

    int client(int number, int what) {
        bounds(number >= 0 && number < clients.size());
        argument(what >= 0 && (what < 3 || what - 3 < packs.size()));
        Client client = clients.get(number);
        if (what >= 3) {
            return client.installed[what - 3];
        }
        int mask = 0;
        for (int pack = 0; pack < 12; pack++) {
            mask += client.installed[pack] > 0 ? 1 << pack : 0;
        }
        return what == 0 ? mask(client.mirrors) : what == 1 ? client.latest : mask;
    }

    int count(int what) {
        argument(what >= 0 && what <= 9);
        int complete = 0;
        int files = 0;
        for (Mirror mirror : mirrors) {
            complete += isComplete(mirror) ? 1 : 0;
            files += mirror.files.size();
        }
        int[] all = {sections, packs.size(), indexes.size(), mirrors.size(), clients.size(), time, validity, complete,
            files, copied};
        return all[what];
    }

    int packageAt(int number, int what) {
        bounds(number >= 0 && number < packs.size());
        argument(what >= 0 && what <= 5);
        Pack pack = packs.get(number);
        Set<Integer> closure = new TreeSet<>();
        close(closure, number);
        int having = 0;
        for (Mirror mirror : mirrors) {
            having += mirror.files.contains(file(number, pack.version)) ? 1 : 0;
        }
        int[] all = {pack.section, pack.size, mask(pack.dependencies), pack.version, mask(closure), having};
        return all[what];
    }

    int index(int number, int what) {
        bounds(number >= 1 && number <= indexes.size());
        argument(what >= 0 && (what < 4 || what - 4 < packs.size()));
        Index index = indexes.get(number - 1);
        if (what >= 4) {
            return what - 4 < index.versions.size() ? index.versions.get(what - 4) : 0;
        }
        long signature = 17;
        for (int version : index.versions) {
            signature = (31 * signature + version) % 65521;
        }
        signature = (2003 * signature + number) % 65521;
        int[] all = {index.time, index.versions.size(), (int) signature, time - index.time <= validity ? 1 : 0};
        return all[what];
    }

    double meanAge() {
        double sum = 0;
        int aged = 0;
        for (Mirror mirror : mirrors) {
            if (mirror.index > 0 && !mirror.tampered) {
                sum += time - indexes.get(mirror.index - 1).time;
                aged++;
            }
        }
        return aged == 0 ? 0 : sum / aged;
    }

    long digest() {
        List<Integer> values = new ArrayList<>();
        for (int what = 0; what <= 9; what++) {
            values.add(count(what));
        }
        for (int pack = 0; pack < packs.size(); pack++) {
            for (int what = 0; what <= 5; what++) {
                values.add(packageAt(pack, what));
            }
        }
        for (int index = 1; index <= indexes.size(); index++) {
            for (int what = 0; what <= 3; what++) {
                values.add(index(index, what));
            }
            values.addAll(indexes.get(index - 1).versions);
        }
        addMirrors(values);
        addClients(values);
        values.add(text.length());
        for (char sign : text.toCharArray()) {
            values.add((int) sign);
        }
        long hash = 1999;
        for (int value : values) {
            hash = 31 * hash + value;
        }
        return hash;
    }

    private void addMirrors(List<Integer> values) {
        for (int mirror = 0; mirror < mirrors.size(); mirror++) {
            for (int what = 0; what <= 10; what++) {
                values.add(mirror(mirror, what));
            }
            for (int pack = 0; pack < packs.size(); pack++) {
                values.add(files(mirror, pack));
            }
        }
    }

    private void addClients(List<Integer> values) {
        for (int client = 0; client < clients.size(); client++) {
            for (int what = 0; what <= 2; what++) {
                values.add(client(client, what));
            }
            for (int pack = 0; pack < packs.size(); pack++) {
                values.add(clients.get(client).installed[pack]);
            }
            for (int what = 0; what <= 4; what++) {
                values.add(ifInstalled(client, 0, what));
            }
            values.add(until(client, 0));
        }
    }
}
