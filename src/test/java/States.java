import java.util.function.LongSupplier;

/** Objects from which the tests of boundaries start, and what an object does later on. */
final class States {
    /** Any characters, up to the length of sixty. */
    static final String SIXTY = "0:1;1:99+abc;;2:3; any characters, up to the length of sixty";

    private static final int NONE = ArchiveMirrors.NONE;

    private States() {
    }

    /** With this many of each, some files copied and some packages installed. */
    static ArchiveMirrors of(int sections, int packages, int indexes, int mirrors, int clients) {
        ArchiveMirrors x = new ArchiveMirrors();
        x.begin(sections);
        for (int i = 0; i < packages; i++) {
            x.addPackage(i % sections, 5 + i, i == 0 ? 0 : 1 << i - 1);
        }
        for (int i = 0; i < indexes; i++) {
            x.publish(i % packages);
            x.release();
        }
        for (int i = 0; i < mirrors; i++) {
            x.addMirror((1 << sections) - 1, 1 + i, 0, i % 2 == 0 ? NONE : i - 1, 40 + 20 * i, i % 2 == 0);
        }
        x.pass(6);
        for (int i = 0; i < clients; i++) {
            x.addClient(1 | 1 << i % mirrors);
            x.install(i, packages == 0 ? 0 : 1);
        }
        return x;
    }

    /** Some of each, and room for more. */
    static ArchiveMirrors some() {
        ArchiveMirrors x = of(3, 3, 2, 2, 2);
        Check.type(x, "0:9+a;1:10");
        return x;
    }

    /** As many of each as there can be: no call can add anything. */
    static ArchiveMirrors full() {
        ArchiveMirrors x = of(5, 12, 20, 6, 4);
        for (int version = x.packageAt(0, 3); version < 30; version++) {
            x.publish(0);
        }
        Check.type(x, SIXTY);
        return x;
    }

    /**
     * What the object answers from now on, so that two objects can be told apart also by what no
     * single call tells: the capacity of a mirror, whether it is careful, a text that is loaded.
     */
    static String future(ArchiveMirrors x) {
        StringBuilder said = new StringBuilder();
        say(said, x::digest);
        say(said, x::firstError);
        say(said, x::load);
        say(said, x::clearInput);
        for (int i = 0; i < 3; i++) {
            say(said, () -> x.pass(1));
            say(said, x::digest);
        }
        for (int i = 0; i < 4; i++) {
            int client = i;
            say(said, () -> x.install(client, (1 << x.count(1)) - 1));
        }
        for (int i = 0; i < 12; i++) {
            int number = i;
            say(said, () -> x.publish(number));
        }
        say(said, x::release);
        say(said, () -> x.append('0'));
        say(said, () -> x.addPackage(0, 9, 0));
        say(said, () -> x.addMirror(1, 2, 1, NONE, 20, true));
        say(said, () -> x.addClient(1));
        say(said, () -> x.pass(2));
        say(said, x::digest);
        say(said, () -> x.pass(60));
        say(said, x::digest);
        return said.toString();
    }

    private static void say(StringBuilder said, LongSupplier call) {
        try {
            said.append(call.getAsLong());
        } catch (RuntimeException e) {
            said.append(e.getClass().getName());
        }
        said.append(' ');
    }
}
