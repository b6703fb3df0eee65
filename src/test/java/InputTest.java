/** Promises 7 to 10: the input buffer and its text. */
public final class InputTest {
    public static void main(String[] args) {
        append();
        clearInput();
        firstErrorOfSections();
        firstErrorOfSizes();
        firstErrorOfLetters();
        firstErrorOfTwelve();
        everyCharacter();
        load();
        loadBehindOthers();
        loadOfTwelve();
        loadOfSixtyCharacters();
        loadAfterLongerText();
        loadRefused();
        Check.end();
    }

    private static void append() {
        ArchiveMirrors x = new ArchiveMirrors();
        for (int i = 1; i <= 59; i++) {
            Check.equal("append", x.append(31 + i), i);
        }
        Check.equal("append(126)", x.append(126), 60);
        Check.badState(x, "a 61st character", () -> x.append(32));
        for (int code : new int[] {31, 127, 0, -1, Integer.MIN_VALUE, Integer.MAX_VALUE}) {
            Check.badArgument(x, "append(" + code + ") to a full buffer", () -> x.append(code));
        }
        x.clearInput();
        for (int code : new int[] {31, 127, 0, -1, 48 + 65536}) {
            Check.badArgument(x, "append(" + code + ")", () -> x.append(code));
        }
        Check.equal("append(32)", x.append(32), 1);
    }

    private static void clearInput() {
        ArchiveMirrors x = new ArchiveMirrors();
        Check.equal("clearInput of an empty buffer", x.clearInput(), 0);
        Check.type(x, "0:1;");
        Check.equal("clearInput", x.clearInput(), 4);
        Check.equal("clearInput again", x.clearInput(), 0);
        Check.equal("append after it", x.append('0'), 1);
        Check.equal("firstError after it", x.firstError(), 1);
    }

    private static void wrongAt(ArchiveMirrors x, String text, int due) {
        x.clearInput();
        Check.type(x, text);
        Check.equal("firstError of \"" + text + "\"", x.firstError(), due);
    }

    /** A text without a syntax error, that is complete or not. */
    private static void right(ArchiveMirrors x, String text) {
        wrongAt(x, text, text.length());
    }

    private static void firstErrorOfSections() {
        ArchiveMirrors x = new ArchiveMirrors();
        right(x, "");
        right(x, "0");
        wrongAt(x, "1", 0);
        x.begin(5);
        right(x, "4");
        wrongAt(x, "5", 0);
        wrongAt(x, "/", 0);
        wrongAt(x, ":", 0);
        wrongAt(x, ";", 0);
        wrongAt(x, "+", 0);
        wrongAt(x, "a", 0);
        wrongAt(x, " 0:1", 0);
        wrongAt(x, "00", 1);
        wrongAt(x, "0;", 1);
        wrongAt(x, "0:1;5:1", 4);
        wrongAt(x, "0:1;;", 4);
        right(x, "0:1;");
    }

    private static void firstErrorOfSizes() {
        ArchiveMirrors x = new ArchiveMirrors();
        wrongAt(x, "0:0", 2);
        wrongAt(x, "0:;", 2);
        wrongAt(x, "0:+", 2);
        wrongAt(x, "0::", 2);
        right(x, "0:1");
        right(x, "0:9");
        right(x, "0:10");
        right(x, "0:99");
        wrongAt(x, "0:100", 4);
        wrongAt(x, "0:1:", 3);
        wrongAt(x, "0:1a", 3);
        wrongAt(x, "0:1/", 3);
        wrongAt(x, "0:12 ", 4);
        right(x, "0:1;0:22");
    }

    private static void firstErrorOfLetters() {
        ArchiveMirrors x = new ArchiveMirrors();
        right(x, "0:1+");
        wrongAt(x, "0:1+a", 4);
        wrongAt(x, "0:1;0:1+b", 8);
        right(x, "0:1;0:1+a");
        right(x, "0:1;0:10+a");
        wrongAt(x, "0:1;0:1+;", 8);
        wrongAt(x, "0:1;0:1++", 8);
        wrongAt(x, "0:1;0:1+A", 8);
        wrongAt(x, "0:1;0:1+`", 8);
        wrongAt(x, "0:1;0:1+0", 8);
        wrongAt(x, "0:1;0:1+aa", 9);
        wrongAt(x, "0:1;0:1+a+", 9);
        wrongAt(x, "0:1;0:1+a1", 9);
        right(x, "0:1;0:1+a;0:1+ab");
        right(x, "0:1;0:1+a;0:1+b");
        wrongAt(x, "0:1;0:1+a;0:1+ba", 15);
        wrongAt(x, "0:1;0:1+a;0:1+bb", 15);
        wrongAt(x, "0:1;0:1+a;0:1+c", 14);
        wrongAt(x, "0:1;0:1+a;0:1+bc", 15);
        for (int i = 0; i < 11; i++) {
            x.addPackage(0, 1, 0);
        }
        right(x, "0:1+abcdefghijk");
        right(x, "0:1+k");
        right(x, "0:1+ak");
        wrongAt(x, "0:1+l", 4);
        wrongAt(x, "0:1+kl", 5);
    }

    private static void firstErrorOfTwelve() {
        ArchiveMirrors x = new ArchiveMirrors();
        String eleven = "0:1;0:1;0:1;0:1;0:1;0:1;0:1;0:1;0:1;0:1;0:1;";
        right(x, eleven + "0:1+k");
        right(x, eleven + "0:1;");
        wrongAt(x, eleven + "0:1;0", 48);
        wrongAt(x, eleven + "0:1;;", 48);
        for (int i = 0; i < 11; i++) {
            x.addPackage(0, 1, 0);
        }
        right(x, "0:1;");
        wrongAt(x, "0:1;0", 4);
        x.addPackage(0, 1, 0);
        wrongAt(x, "0", 0);
        right(x, "");
    }

    /** At each place of a text, exactly these characters may come next. */
    private static void everyCharacter() {
        mayFollow("", "012");
        mayFollow("1", ":");
        mayFollow("1:", "123456789");
        mayFollow("1:3", "0123456789+;");
        mayFollow("1:30", "+;");
        mayFollow("1:30+", "ab");
        mayFollow("1:30+a", "b;");
        mayFollow("1:30+b", ";");
        mayFollow("1:30+b;", "012");
        mayFollow("1:30+b;1:3+", "abc");
        mayFollow("1:30;1:3+a", "bc;");
    }

    private static void mayFollow(String text, String allowed) {
        for (int code = 32; code <= 126; code++) {
            ArchiveMirrors x = Check.archiveOf(3, 5, 5);
            Check.type(x, text);
            x.append(code);
            boolean due = allowed.indexOf((char) code) >= 0;
            Check.equal("firstError of \"" + text + (char) code + "\"", x.firstError(), text.length() + (due ? 1 : 0));
        }
    }

    private static void properties(ArchiveMirrors x, int number, int... due) {
        for (int what = 0; what < due.length; what++) {
            Check.equal("packageAt(" + number + ", " + what + ")", x.packageAt(number, what), due[what]);
        }
    }

    private static void load() {
        ArchiveMirrors x = new ArchiveMirrors();
        x.begin(4);
        Check.type(x, "3:7;0:10+a;2:99+ab;1:5");
        Check.equal("load of four", x.load(), 4);
        Check.equal("the buffer is cleared", x.clearInput(), 0);
        properties(x, 0, 3, 7, 0, 1, 1);
        properties(x, 1, 0, 10, 1, 1, 3);
        properties(x, 2, 2, 99, 3, 1, 7);
        properties(x, 3, 1, 5, 0, 1, 8);
        Check.equal("packages", x.count(1), 4);
    }

    private static void loadBehindOthers() {
        ArchiveMirrors x = Check.archiveOf(2, 30);
        x.publish(0);
        Check.type(x, "1:4+a");
        Check.equal("load of one", x.load(), 1);
        Check.type(x, "0:42+b;1:1+c");
        Check.equal("load of two", x.load(), 2);
        properties(x, 0, 0, 30, 0, 2, 1);
        properties(x, 1, 1, 4, 1, 1, 3);
        properties(x, 2, 0, 42, 2, 1, 7);
        properties(x, 3, 1, 1, 4, 1, 15);
    }

    private static void loadOfTwelve() {
        ArchiveMirrors x = new ArchiveMirrors();
        Check.type(x, "0:1;0:2;0:3;0:4;0:5;0:6;0:7;0:8;0:9;0:10;0:11;0:12+k");
        Check.equal("load of twelve", x.load(), 12);
        properties(x, 11, 0, 12, 1 << 10, 1, 3 << 10);
        Check.badArgument(x, "load of an empty buffer", () -> x.load());
        Check.type(x, "0:1");
        Check.badArgument(x, "load of a 13th", () -> x.load());
    }

    private static void loadOfSixtyCharacters() {
        ArchiveMirrors x = new ArchiveMirrors();
        Check.type(x, "0:10;0:11;0:12;0:13;0:14;0:15;0:16;0:17;0:18;0:19;0:20;0:1+a");
        Check.equal("firstError of sixty characters", x.firstError(), 60);
        Check.equal("load of sixty characters", x.load(), 12);
        properties(x, 10, 0, 20, 0);
        properties(x, 11, 0, 1, 1);
    }

    /** What an earlier text has left behind the buffer's end is not read. */
    private static void loadAfterLongerText() {
        ArchiveMirrors x = new ArchiveMirrors();
        Check.type(x, "0:1;0:2+a");
        Check.equal("load of two", x.load(), 2);
        Check.type(x, "0:3");
        Check.equal("load of one behind it", x.load(), 1);
        Check.equal("packages", x.count(1), 3);
        Check.type(x, "0:40+ab");
        x.clearInput();
        Check.type(x, "0:4");
        Check.equal("firstError of a shorter text", x.firstError(), 3);
        Check.equal("load of a shorter text", x.load(), 1);
        properties(x, 3, 0, 4, 0);
    }

    private static void loadRefused() {
        ArchiveMirrors x = Check.archiveOf(2, 30);
        String[] texts = {"", "0", "0:", "0:1;", "0:1+", "0:1+a;", "0:1+b", "0:1 ", "2:1", "0:0", "0:100", "0:1;0:1+c",
            "0:1;1:2;;", "0:1+aa"};
        for (String text : texts) {
            x.clearInput();
            Check.type(x, text);
            Check.badArgument(x, "load of \"" + text + "\"", () -> x.load());
            Check.equal("packages after load of \"" + text + "\"", x.count(1), 1);
            Check.equal("the buffer after load of \"" + text + "\"", x.clearInput(), text.length());
        }
        // The twelfth package may be followed by a sign that opens one more, but not be loaded so.
        Check.type(x, "0:1;0:1;0:1;0:1;0:1;0:1;0:1;0:1;0:1;0:1;0:1;");
        Check.equal("firstError behind twelve", x.firstError(), 44);
        Check.badArgument(x, "load behind twelve", () -> x.load());
    }
}
