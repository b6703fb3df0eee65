/** The hash of the document, from the answers of the other calls. */
final class Digests {
    private long hash = 1999;

    private Digests() {
    }

    /** No call tells the characters of the buffer, so the caller does. */
    static long of(ArchiveMirrors x, String text) {
        Digests digest = new Digests();
        for (int what = 0; what < 10; what++) {
            digest.add(x.count(what));
        }
        digest.addArchive(x);
        digest.addMirrors(x);
        digest.addClients(x);
        digest.addInput(text);
        return digest.hash;
    }

    private void add(long value) {
        hash = 31 * hash + value;
    }

    private void addArchive(ArchiveMirrors x) {
        for (int number = 0; number < x.count(1); number++) {
            for (int what = 0; what < 6; what++) {
                add(x.packageAt(number, what));
            }
        }
        for (int index = 1; index <= x.count(2); index++) {
            for (int what = 0; what < 4 + x.index(index, 1); what++) {
                add(x.index(index, what));
            }
        }
    }

    private void addMirrors(ArchiveMirrors x) {
        for (int mirror = 0; mirror < x.count(3); mirror++) {
            for (int what = 0; what <= 10; what++) {
                add(x.mirror(mirror, what));
            }
            for (int number = 0; number < x.count(1); number++) {
                add(x.files(mirror, number));
            }
        }
    }

    private void addClients(ArchiveMirrors x) {
        for (int client = 0; client < x.count(4); client++) {
            for (int what = 0; what < 3 + x.count(1); what++) {
                add(x.client(client, what));
            }
            for (int what = 0; what < 5; what++) {
                add(x.ifInstalled(client, 0, what));
            }
            add(x.until(client, 0));
        }
    }

    private void addInput(String text) {
        add(text.length());
        for (int i = 0; i < text.length(); i++) {
            add(text.charAt(i));
        }
    }
}
