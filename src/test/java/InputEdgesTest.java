/**
 * The boundary cases of the input text: promises 7 to 10, and "Input text" in the description.
 * Above each test stands the sentence of the document that it holds to.
 */
public final class InputEdgesTest {
    public static void main(String[] args) {
        atMostSixty();
        clearedWhenFull();
        emptyBuffer();
        errorAtTheEndOfAFullBuffer();
        oneOrMorePackages();
        sectionMustExist();
        colonBehindTheSection();
        sizeOfOneOrTwoDigits();
        sizeDoesNotBeginWithZero();
        lettersOneOrMore();
        lettersOnlyBehindPlus();
        lettersOfPackagesThatThereAre();
        lettersToldBefore();
        lettersAscend();
        letterOfTheTwelfth();
        digitAfterTwelve();
        nothingAfterTwelveButOneSign();
        theFirstErrorCounts();
        readAnewWithEachCall();
        completeIfASignCouldFollow();
        completeWithoutRoomForAPackage();
        completeWithoutRoomForACharacter();
        loadAddsInOrder();
        loadClearsTheBuffer();
        loadRefusedChangesNothing();
        Check.end();
    }

    private static void repeat(ArchiveMirrors x, int times) {
        for (int i = 0; i < times; i++) {
            x.addPackage(0, 1, 0);
        }
    }

    /** An archive with this many sections and packages, all without dependencies. */
    private static ArchiveMirrors archive(int sections, int packages) {
        ArchiveMirrors x = new ArchiveMirrors();
        x.begin(sections);
        repeat(x, packages);
        return x;
    }

    /** "0:1" this many times, separated by ";". */
    private static String packages(int times) {
        return "0:1;".repeat(times).substring(0, Math.max(0, 4 * times - 1));
    }

    private static void wrongAt(int sections, int packages, String text, int due) {
        ArchiveMirrors x = archive(sections, packages);
        Check.type(x, text);
        String name = "\"" + text + "\" behind " + packages + " packages";
        Check.equal("firstError of " + name, x.firstError(), due);
        Check.badArgument(x, "load of " + name, () -> x.load());
        Check.equal("the buffer keeps " + name, x.clearInput(), text.length());
    }

    /** Without a syntax error, and not complete. */
    private static void unfinished(int sections, int packages, String text) {
        wrongAt(sections, packages, text, text.length());
    }

    private static void complete(int sections, int packages, String text, int due) {
        ArchiveMirrors x = archive(sections, packages);
        Check.type(x, text);
        String name = "\"" + text + "\" behind " + packages + " packages";
        Check.equal("firstError of " + name, x.firstError(), text.length());
        try {
            Check.equal("load of " + name, x.load(), due);
        } catch (RuntimeException e) {
            Check.fail("load of " + name + " threw " + e);
        }
        Check.equal("packages after load of " + name, x.count(1), packages + due);
        Check.equal("the buffer after load of " + name, x.clearInput(), 0);
    }

    /** "The input buffer has at most 60 characters." */
    private static void atMostSixty() {
        ArchiveMirrors x = new ArchiveMirrors();
        for (int i = 1; i <= 60; i++) {
            Check.equal("append", x.append(i % 2 == 0 ? 126 : 32), i);
        }
        Check.badState(x, "a 61st character", () -> x.append('0'));
        Check.badArgument(x, "a 61st character with code 31", () -> x.append(31));
        Check.badArgument(x, "a 61st character with code 127", () -> x.append(127));
        Check.equal("60 characters", x.clearInput(), 60);
    }

    /** "Returns the length that it had." */
    private static void clearedWhenFull() {
        ArchiveMirrors x = new ArchiveMirrors();
        Check.type(x, States.SIXTY);
        Check.equal("clearInput of a full buffer", x.clearInput(), 60);
        Check.equal("clearInput of an empty one", x.clearInput(), 0);
        for (int i = 1; i <= 59; i++) {
            x.append('0');
        }
        Check.equal("clearInput of 59 characters", x.clearInput(), 59);
        Check.equal("append after it", x.append('0'), 1);
    }

    /** "the length of the buffer if there is none"; "one or more packages" */
    private static void emptyBuffer() {
        unfinished(1, 0, "");
        unfinished(5, 3, "");
        unfinished(1, 12, "");
    }

    private static void errorAtTheEndOfAFullBuffer() {
        String text = "0:10;".repeat(11);
        wrongAt(1, 0, text + "0:1+l", 59);
        wrongAt(1, 0, text + "0:10;", 60);
        complete(1, 0, text + "0:1+k", 12);
        wrongAt(1, 0, States.SIXTY, 4);
    }

    /** "A text of packages is one or more packages separated by ";"." */
    private static void oneOrMorePackages() {
        for (int times = 1; times <= 12; times++) {
            complete(1, 0, packages(times), times);
        }
        wrongAt(1, 0, ";", 0);
        wrongAt(1, 0, ";0:1", 0);
        wrongAt(1, 0, "0:1;;0:1", 4);
        wrongAt(1, 0, "0:1,0:1", 3);
        unfinished(1, 0, "0:1;");
        wrongAt(1, 0, "0:1; 0:1", 4);
        wrongAt(1, 0, "0:1 ", 3);
    }

    /** "the digit of its section, which must exist" */
    private static void sectionMustExist() {
        for (int sections = 1; sections <= 5; sections++) {
            for (int digit = 0; digit <= 9; digit++) {
                if (digit < sections) {
                    complete(sections, 0, digit + ":1", 1);
                    complete(sections, 1, "0:1;" + digit + ":1", 2);
                } else {
                    wrongAt(sections, 0, digit + ":1", 0);
                    wrongAt(sections, 1, "0:1;" + digit + ":1", 4);
                }
            }
        }
        for (String sign : new String[] {"/", ":", ";", "+", "a", "A", " ", "~", "-"}) {
            wrongAt(5, 1, sign + ":1", 0);
        }
    }

    private static void colonBehindTheSection() {
        unfinished(5, 0, "0");
        unfinished(5, 0, "4:");
        wrongAt(5, 0, "00:1", 1);
        wrongAt(5, 0, "0;1", 1);
        wrongAt(5, 0, "0+", 1);
        wrongAt(5, 0, "09", 1);
        wrongAt(5, 0, "0::", 2);
    }

    /** "its size (1 or 2 digits ..)" */
    private static void sizeOfOneOrTwoDigits() {
        for (int size = 1; size <= 99; size++) {
            ArchiveMirrors x = new ArchiveMirrors();
            Check.type(x, "0:" + size);
            Check.equal("load of size " + size, x.load(), 1);
            Check.equal("size " + size, x.packageAt(0, 1), size);
        }
        wrongAt(1, 0, "0:;", 2);
        wrongAt(1, 0, "0:+", 2);
        wrongAt(1, 0, "0:a", 2);
        wrongAt(1, 0, "0:/", 2);
        wrongAt(1, 0, "0:-1", 2);
        wrongAt(1, 0, "0:100", 4);
        wrongAt(1, 0, "0:999", 4);
        wrongAt(1, 0, "0:1:", 3);
        wrongAt(1, 0, "0:1/", 3);
        wrongAt(1, 0, "0:99:", 4);
    }

    /** "not beginning with 0" */
    private static void sizeDoesNotBeginWithZero() {
        wrongAt(1, 0, "0:0", 2);
        wrongAt(1, 0, "0:01", 2);
        wrongAt(1, 0, "0:1;0:05", 6);
        complete(1, 0, "0:10", 1);
        complete(1, 0, "0:1;0:90", 2);
    }

    /** "possibly "+" and the letters of the packages on which it depends, one or more" */
    private static void lettersOneOrMore() {
        unfinished(1, 2, "0:1+");
        unfinished(1, 2, "0:10+");
        wrongAt(1, 2, "0:1+;", 4);
        wrongAt(1, 2, "0:1++a", 4);
        wrongAt(1, 2, "0:1+1", 4);
        wrongAt(1, 2, "0:1+a+b", 5);
        wrongAt(1, 2, "0:1+a1", 5);
        complete(1, 2, "0:1+a", 1);
        complete(1, 2, "0:10+ab", 1);
    }

    private static void lettersOnlyBehindPlus() {
        wrongAt(1, 2, "0:1a", 3);
        wrongAt(1, 2, "0:10a", 4);
        wrongAt(1, 2, "a", 0);
        wrongAt(1, 2, "0a", 1);
    }

    /** "The letters are those of packages that there are": with n packages, the first n letters. */
    private static void lettersOfPackagesThatThereAre() {
        for (int packages = 0; packages <= 11; packages++) {
            for (int letter = 0; letter <= 12; letter++) {
                String text = "0:1+" + (char) ('a' + letter);
                if (letter < packages) {
                    complete(1, packages, text, 1);
                } else {
                    wrongAt(1, packages, text, 4);
                }
            }
        }
        wrongAt(1, 11, "0:1+`", 4);
        wrongAt(1, 11, "0:1+A", 4);
        wrongAt(1, 11, "0:1+{", 4);
    }

    /** "or that were told before in the text": a package itself is not told before it. */
    private static void lettersToldBefore() {
        complete(1, 0, "0:1;0:1+a", 2);
        wrongAt(1, 0, "0:1;0:1+b", 8);
        complete(1, 1, "0:1;0:1+ab", 2);
        wrongAt(1, 1, "0:1;0:1+abc", 10);
        complete(1, 10, "0:1;0:1+k", 2);
        wrongAt(1, 10, "0:1+k;0:1", 4);
        complete(1, 0, packages(11) + ";0:1+abcdefghijk", 12);
        wrongAt(1, 0, "0:1+a;0:1", 4);
    }

    /** "each greater than the one before it" */
    private static void lettersAscend() {
        wrongAt(1, 11, "0:1+aa", 5);
        wrongAt(1, 11, "0:1+ba", 5);
        wrongAt(1, 11, "0:1+kk", 5);
        wrongAt(1, 11, "0:1+kj", 5);
        wrongAt(1, 11, "0:1+aba", 6);
        wrongAt(1, 11, "0:1+acb", 6);
        complete(1, 11, "0:1+ab", 1);
        complete(1, 11, "0:1+ak", 1);
        complete(1, 11, "0:1+jk", 1);
        complete(1, 11, "0:1+abcdefghijk", 1);
        complete(1, 1, "0:1+a;0:1+a", 2);
    }

    /** The 12th package has the letter 'l', on which none can depend. */
    private static void letterOfTheTwelfth() {
        wrongAt(1, 11, "0:1+l", 4);
        wrongAt(1, 11, "0:1+kl", 5);
        wrongAt(1, 11, "0:1+m", 4);
        wrongAt(1, 10, "0:1;0:1+l", 8);
    }

    /** "(so is the digit of a section after 12 packages, those that there are included)" */
    private static void digitAfterTwelve() {
        for (int packages = 0; packages <= 11; packages++) {
            String text = packages(12 - packages);
            complete(1, packages, text, 12 - packages);
            unfinished(1, packages, text + ";");
            wrongAt(1, packages, text + ";0", text.length() + 1);
        }
        wrongAt(1, 12, "0", 0);
        wrongAt(5, 12, "4:1", 0);
    }

    private static void nothingAfterTwelveButOneSign() {
        for (int code = 32; code <= 126; code++) {
            wrongAt(5, 11, "0:1;" + (char) code, 4);
            wrongAt(5, 12, "" + (char) code, 0);
        }
    }

    /** "Returns the index of the first character that is a syntax error" */
    private static void theFirstErrorCounts() {
        wrongAt(1, 0, "x:0;;", 0);
        wrongAt(1, 0, "0x0;;", 1);
        wrongAt(1, 0, "0:0;;", 2);
        wrongAt(1, 0, "0:1;;;", 4);
        wrongAt(1, 0, "0:123:", 4);
    }

    /** The sections and packages are those that there are at the call. */
    private static void readAnewWithEachCall() {
        ArchiveMirrors x = new ArchiveMirrors();
        Check.type(x, "0:1+b");
        Check.equal("without packages", x.firstError(), 4);
        repeat(x, 1);
        Check.equal("with one package", x.firstError(), 4);
        repeat(x, 1);
        Check.equal("with two packages", x.firstError(), 5);
        Check.equal("and again", x.firstError(), 5);
        repeat(x, 9);
        Check.equal("with eleven packages", x.firstError(), 5);
        repeat(x, 1);
        Check.equal("with twelve packages", x.firstError(), 0);
        x.begin(1);
        Check.equal("without packages again", x.firstError(), 4);
        Check.equal("firstError changes nothing", x.clearInput(), 5);
    }

    /** "A buffer without a syntax error is complete if a ";" could come next": for each part of a text. */
    private static void completeIfASignCouldFollow() {
        String text = "1:23+ab;0:4+c;2:9";
        String[] due = {"", "1", "1:", "1:2!", "1:23!", "1:23+", "1:23+a!", "1:23+ab!", "1:23+ab;", "1:23+ab;0",
            "1:23+ab;0:", "1:23+ab;0:4!", "1:23+ab;0:4+", "1:23+ab;0:4+c!", "1:23+ab;0:4+c;", "1:23+ab;0:4+c;2",
            "1:23+ab;0:4+c;2:", "1:23+ab;0:4+c;2:9!"};
        for (int i = 0; i <= text.length(); i++) {
            String part = text.substring(0, i);
            boolean whole = due[i].endsWith("!");
            Check.equal("the list tells the parts", due[i].startsWith(part) ? 1 : 0, 1);
            if (whole) {
                complete(3, 2, part, part.split(";").length);
            } else {
                unfinished(3, 2, part);
            }
        }
    }

    /** "(whether or not there is room for another package)" */
    private static void completeWithoutRoomForAPackage() {
        complete(1, 11, "0:1", 1);
        complete(1, 11, "0:99", 1);
        complete(1, 11, "0:1+k", 1);
        complete(1, 10, "0:1;0:2", 2);
        complete(1, 0, packages(12), 12);
        unfinished(1, 11, "0:1;");
        unfinished(1, 11, "0:1+");
    }

    /** The buffer itself may be full: the ";" that could come next need not be typed. */
    private static void completeWithoutRoomForACharacter() {
        complete(1, 0, "0:10;".repeat(11) + "0:1+a", 12);
        complete(1, 5, "0:10+a;".repeat(4) + "0:10+abcde;0:10+abcdef;0:10+abcd", 7);
        wrongAt(1, 0, "0:10;".repeat(12), 60);
    }

    /** "Adds the packages in the buffer, in their order" */
    private static void loadAddsInOrder() {
        ArchiveMirrors x = archive(5, 1);
        Check.type(x, "4:99+a;0:1;3:10+abc");
        Check.equal("load of three", x.load(), 3);
        int[][] due = {{0, 1, 0, 1, 1, 0}, {4, 99, 1, 1, 3, 0}, {0, 1, 0, 1, 4, 0}, {3, 10, 7, 1, 15, 0}};
        for (int number = 0; number < due.length; number++) {
            for (int what = 0; what < 6; what++) {
                Check.equal("packageAt(" + number + ", " + what + ")", x.packageAt(number, what), due[number][what]);
            }
        }
    }

    /** "and clears the buffer" */
    private static void loadClearsTheBuffer() {
        ArchiveMirrors x = new ArchiveMirrors();
        Check.type(x, "0:1");
        x.load();
        Check.equal("firstError after load", x.firstError(), 0);
        Check.badArgument(x, "load again", () -> x.load());
        Check.equal("append after load", x.append('0'), 1);
        Check.equal("packages", x.count(1), 1);
    }

    /** "Throws IllegalArgumentException if the buffer is not a complete text": no package of it is added. */
    private static void loadRefusedChangesNothing() {
        for (String text : new String[] {"0:1;0:2;", "0:1;0:2;0", "0:1;0:2;x", "0:1;0:2+", "0:1;0:2+d", "0:1;0:0"}) {
            Check.refusedOf(() -> {
                ArchiveMirrors x = archive(1, 2);
                Check.type(x, text);
                return x;
            }, "load of " + text, IllegalArgumentException.class, (x, value) -> x.load(), 0);
        }
        Check.refusedOf(States::full, "load, full", IllegalArgumentException.class, (x, value) -> x.load(), 0);
    }
}
