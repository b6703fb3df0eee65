import java.io.IOException;
import java.nio.file.Files;
import java.nio.file.Path;
import java.util.regex.Matcher;
import java.util.regex.Pattern;

/**
 * Prints a copy of the class that counts its calls, and ends a test that uses an object for more of them
 * than the document allows: "An object is used for at most 512 calls after it has been made". It throws
 * an error and no exception, so that no test takes it for an answer.
 */
public final class CountedCopy {
    private static final int METHODS = 25;
    private static final String COUNTER = "\n    private int calls;\n\n    private void countOneCall() {\n"
            + "        calls++;\n        if (calls > 512) {\n"
            + "            throw new AssertionError(\"an object is used for more than 512 calls\");\n        }\n    }\n}\n";

    public static void main(String[] args) throws IOException {
        String source = Files.readString(Path.of(args[0]));
        Matcher method = Pattern.compile("(?m)^    public (?:int|long|double) \\w+\\([^)]*\\)[^{;]*\\{\n").matcher(source);
        StringBuilder copy = new StringBuilder();
        int found = 0;
        while (method.find()) {
            method.appendReplacement(copy, "$0        countOneCall();\n");
            found++;
        }
        method.appendTail(copy);
        if (found != METHODS) {
            System.err.println("the copy counts the calls of " + found + " methods, due are " + METHODS);
            System.exit(1);
        }
        int end = copy.lastIndexOf("}");
        System.out.print(copy.substring(0, end) + COUNTER);
    }
}
