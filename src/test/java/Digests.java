import java.util.function.Supplier;

/**
 * The hash of the document, from the answers of the other calls. One object has not enough calls for
 * all of them, so each thing is asked of a twin of its own.
 */
final class Digests {
    private final Supplier<ArchiveMirrors> make;
    private long hash = 1999;

    private Digests(Supplier<ArchiveMirrors> make) {
        this.make = make;
    }

    /** No call tells the characters of the buffer, so the caller does. */
    static long of(Supplier<ArchiveMirrors> make, String text) {
        ArchiveMirrors x = make.get();
        Digests digest = new Digests(make);
        for (int what = 0; what < 10; what++) {
            digest.add(x.count(what));
        }
        int packages = x.count(1);
        digest.addArchive(packages, x.count(2));
        digest.addMirrors(packages, x.count(3));
        digest.addClients(packages, x.count(4));
        digest.addInput(text);
        return digest.hash;
    }

    private void add(long value) {
        hash = 31 * hash + value;
    }

    private void addArchive(int packages, int indexes) {
        for (int number = 0; number < packages; number++) {
            ArchiveMirrors x = make.get();
            for (int what = 0; what < 6; what++) {
                add(x.packageAt(number, what));
            }
        }
        for (int index = 1; index <= indexes; index++) {
            ArchiveMirrors x = make.get();
            int kinds = 4 + x.index(index, 1);
            for (int what = 0; what < kinds; what++) {
                add(x.index(index, what));
            }
        }
    }

    private void addMirrors(int packages, int mirrors) {
        for (int mirror = 0; mirror < mirrors; mirror++) {
            ArchiveMirrors x = make.get();
            for (int what = 0; what <= 10; what++) {
                add(x.mirror(mirror, what));
            }
            for (int number = 0; number < packages; number++) {
                add(x.files(mirror, number));
            }
        }
    }

    private void addClients(int packages, int clients) {
        for (int client = 0; client < clients; client++) {
            ArchiveMirrors x = make.get();
            for (int what = 0; what < 3 + packages; what++) {
                add(x.client(client, what));
            }
            for (int what = 0; what < 5; what++) {
                add(x.ifInstalled(client, 0, what));
            }
            add(x.until(client, 0));
        }
    }

    private void addInput(String text) {
        add(text.length());
        for (int i = 0; i < text.length(); i++) {
            add(text.charAt(i));
        }
    }
}
