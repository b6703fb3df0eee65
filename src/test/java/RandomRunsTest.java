import java.util.Random;

/** Runs of random calls, with the same seeds each time: the class answers as the model does. */
public final class RandomRunsTest {
    private static final int RUNS = 1500;
    /** An object is used for at most 512 calls; what later calls answer is free. */
    private static final int CALLS = 512;
    /** As many calls as typing a text may take, and a digest. */
    private static final int LONGEST = 121;
    private static final int KINDS = 27;
    private static final int[] ODD = {Integer.MIN_VALUE, -1000, -2, -1, 0, 1, 31, 32, 33, 64, 1 << 12, 1 << 30,
        Integer.MAX_VALUE};
    /** What moves files about: publish, release, removeFile, pass, install, until. */
    private static final int[] MOVING = {2, 2, 2, 3, 11, 11, 12, 12, 12, 12, 15, 17};
    private static final String SIGNS = "0123456789:;+abcdefghijklm ~";

    private final Random random;
    /** In every other run mirrors are narrow, and most calls move files. */
    private final boolean busy;
    private final ArchiveMirrors real = new ArchiveMirrors();
    private final Model model = new Model();
    private String call = "";
    private String typing = "";
    private boolean wrong = false;
    private int calls = 0;

    private RandomRunsTest(int seed) {
        random = new Random(seed);
        busy = seed % 2 == 1;
    }

    public static void main(String[] args) {
        for (int seed = 1; seed <= RUNS; seed++) {
            new RandomRunsTest(seed).run(seed);
        }
        Check.end();
    }

    private void run(int seed) {
        for (int i = 0; calls + LONGEST <= CALLS && !wrong; i++) {
            int kind = nextKind(i);
            int[] arguments = argumentsFor(kind);
            String due = answer(kind, arguments, false);
            String got = answer(kind, arguments, true);
            if (!got.equals(due)) {
                wrong = true;
                Check.fail("run " + seed + ", call " + i + ": " + call + " answered " + got + ", due is " + due);
            }
            if (i % 25 == 24) {
                compareDigests(seed, i);
            }
        }
        compareDigests(seed, calls);
    }

    private void compareDigests(int seed, int i) {
        calls++;
        if (!wrong && real.digest() != model.digest()) {
            wrong = true;
            Check.fail("run " + seed + ", call " + i + ": the digest is wrong after " + call);
        }
    }

    /** First what makes a state, and only seldom what ends it. */
    private int nextKind(int done) {
        if (done == 0) {
            return 0;
        }
        if (done < 14) {
            return new int[] {1, 1, 1, 3, 9, 9, 14, 10}[random.nextInt(8)];
        }
        if (busy && random.nextInt(4) > 0) {
            return MOVING[random.nextInt(MOVING.length)];
        }
        int kind = random.nextInt(KINDS);
        boolean seldom = kind == 0 || kind == 4 || kind == 10;
        return seldom && random.nextInt(kind == 0 ? 20 : 4) > 0 ? 12 + 3 * random.nextInt(2) : kind;
    }

    /** A number below the bound, mostly. */
    private int below(int bound) {
        if (random.nextInt(25) == 0) {
            return ODD[random.nextInt(ODD.length)];
        }
        return random.nextInt(Math.max(1, bound + (random.nextInt(25) == 0 ? 1 : 0)));
    }

    /** A number from 1 to the bound, mostly. */
    private int upTo(int bound) {
        int number = below(bound);
        return number < Integer.MAX_VALUE && random.nextInt(40) > 0 ? number + 1 : number;
    }

    /** A set of this many things, mostly. */
    private int set(int bound) {
        return below(1 << bound);
    }

    private int[] argumentsFor(int kind) {
        int packs = model.packs.size();
        int mirrors = model.mirrors.size();
        int clients = model.clients.size();
        switch (kind) {
            case 0: return new int[] {upTo(5)};
            case 1: return new int[] {below(model.sections), upTo(99), set(packs) & set(packs)};
            case 2: return new int[] {below(packs)};
            case 4: return new int[] {upTo(random.nextInt(4) == 0 ? 20 : 999)};
            case 5: return new int[] {random.nextInt(30) == 0 ? below(200) : SIGNS.charAt(random.nextInt(28))};
            case 9: {
                int interval = upTo(random.nextBoolean() ? 4 : 60);
                return new int[] {set(model.sections), interval, below(interval), below(mirrors + 1) - 1,
                    upTo(busy ? 80 : 200), random.nextInt(2)};
            }
            case 10: return new int[] {below(mirrors)};
            case 11: return removed();
            case 12: return new int[] {upTo(random.nextInt(10) == 0 ? 200 : 5)};
            case 13: return new int[] {below(mirrors), below(11)};
            case 14: return new int[] {set(mirrors)};
            case 15: return new int[] {below(clients), set(packs) & set(packs)};
            case 16: return new int[] {below(clients), set(packs) & set(packs), below(5)};
            case 17: return new int[] {below(clients), set(packs) & set(packs)};
            case 18: return new int[] {below(clients), below(3 + packs)};
            case 19: return new int[] {below(10)};
            case 20: return new int[] {below(packs), below(6)};
            case 21: return new int[] {upTo(model.indexes.size()), below(4 + packs)};
            case 23: return new int[] {below(mirrors), below(packs)};
            default: return new int[0];
        }
    }

    private int[] removed() {
        int pack = below(model.packs.size());
        boolean there = pack >= 0 && pack < model.packs.size();
        return new int[] {below(model.mirrors.size()), pack, there ? upTo(model.packs.get(pack).version) : below(3)};
    }

    private String answer(int kind, int[] a, boolean ofReal) {
        try {
            return ofReal ? realAnswer(kind, a) : modelAnswer(kind, a);
        } catch (RuntimeException e) {
            return e.getClass().getName();
        }
    }

    private void say(String name, int[] a) {
        StringBuilder words = new StringBuilder(name);
        for (int value : a) {
            words.append(' ').append(value);
        }
        call = words.toString();
    }

    private String realAnswer(int kind, int[] a) {
        calls += kind < 24 ? 1 : 2 * typing.length();
        switch (kind) {
            case 0: say("begin", a); return "" + real.begin(a[0]);
            case 1: say("addPackage", a); return "" + real.addPackage(a[0], a[1], a[2]);
            case 2: say("publish", a); return "" + real.publish(a[0]);
            case 3: say("release", a); return "" + real.release();
            case 4: say("setValidity", a); return "" + real.setValidity(a[0]);
            case 5: say("append", a); return "" + real.append(a[0]);
            case 6: say("clearInput", a); return "" + real.clearInput();
            case 7: say("firstError", a); return "" + real.firstError();
            case 8: say("load", a); return "" + real.load();
            case 9: say("addMirror", a); return "" + real.addMirror(a[0], a[1], a[2], a[3], a[4], a[5] == 1);
            case 10: say("tamper", a); return "" + real.tamper(a[0]);
            case 11: say("removeFile", a); return "" + real.removeFile(a[0], a[1], a[2]);
            case 12: say("pass", a); return "" + real.pass(a[0]);
            case 13: say("mirror", a); return "" + real.mirror(a[0], a[1]);
            case 14: say("addClient", a); return "" + real.addClient(a[0]);
            case 15: say("install", a); return "" + real.install(a[0], a[1]);
            case 16: say("ifInstalled", a); return "" + real.ifInstalled(a[0], a[1], a[2]);
            case 17: say("until", a); return "" + real.until(a[0], a[1]);
            case 18: say("client", a); return "" + real.client(a[0], a[1]);
            case 19: say("count", a); return "" + real.count(a[0]);
            case 20: say("packageAt", a); return "" + real.packageAt(a[0], a[1]);
            case 21: say("index", a); return "" + real.index(a[0], a[1]);
            case 22: say("meanAge", a); return "" + real.meanAge();
            case 23: say("files", a); return "" + real.files(a[0], a[1]);
            default: return typed(true);
        }
    }

    private String modelAnswer(int kind, int[] a) {
        switch (kind) {
            case 0: return "" + model.begin(a[0]);
            case 1: return "" + model.addPackage(a[0], a[1], a[2]);
            case 2: return "" + model.publish(a[0]);
            case 3: return "" + model.release();
            case 4: return "" + model.setValidity(a[0]);
            case 5: return "" + model.append(a[0]);
            case 6: return "" + model.clearInput();
            case 7: return "" + model.firstError();
            case 8: return "" + model.load();
            case 9: return "" + model.addMirror(a[0], a[1], a[2], a[3], a[4], a[5] == 1);
            case 10: return "" + model.tamper(a[0]);
            case 11: return "" + model.removeFile(a[0], a[1], a[2]);
            case 12: return "" + model.pass(a[0]);
            case 13: return "" + model.mirror(a[0], a[1]);
            case 14: return "" + model.addClient(a[0]);
            case 15: return "" + model.install(a[0], a[1]);
            case 16: return "" + model.ifInstalled(a[0], a[1], a[2]);
            case 17: return "" + model.until(a[0], a[1]);
            case 18: return "" + model.client(a[0], a[1]);
            case 19: return "" + model.count(a[0]);
            case 20: return "" + model.packageAt(a[0], a[1]);
            case 21: return "" + model.index(a[0], a[1]);
            case 22: return "" + model.meanAge();
            case 23: return "" + model.files(a[0], a[1]);
            default: return typed(false);
        }
    }

    /** Types a text that is right, but for a sign here and there; the model comes first and chooses it. */
    private String typed(boolean ofReal) {
        if (!ofReal) {
            typing = randomText();
            call = "typing " + typing;
        }
        StringBuilder answers = new StringBuilder();
        for (int i = 0; i < typing.length(); i++) {
            int code = typing.charAt(i);
            answers.append(ofReal ? real.append(code) : model.append(code)).append(' ');
            answers.append(ofReal ? real.firstError() : model.firstError()).append(' ');
        }
        return answers.toString();
    }

    private String randomText() {
        StringBuilder words = new StringBuilder();
        int number = model.packs.size();
        int packs = 1 + random.nextInt(3);
        for (int i = 0; i < packs; i++) {
            words.append(i == 0 ? "" : ";").append(random.nextInt(model.sections)).append(':');
            words.append(1 + random.nextInt(99));
            int letters = random.nextInt(1 << Math.min(number, 12));
            words.append(letters == 0 ? "" : "+");
            for (int letter = 0; letter < 12; letter++) {
                words.append((letters >> letter & 1) == 0 ? "" : "" + (char) ('a' + letter));
            }
            number++;
        }
        if (random.nextInt(4) == 0) {
            words.setCharAt(random.nextInt(words.length()), SIGNS.charAt(random.nextInt(SIGNS.length())));
        }
        int room = 60 - model.text.length();
        return words.substring(0, Math.min(room, words.length()));
    }
}
