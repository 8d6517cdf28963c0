import java.io.IOException;
import java.io.UncheckedIOException;
import java.nio.file.Files;
import java.nio.file.Path;
import java.util.HashMap;
import java.util.Map;

/**
 * Tests that stand under the document's own words. Each quotes the sentence that it would see broken; a quotation that
 * is not found where it should stand in the document counts as wrong. Runs in the project's folder.
 */
final class Sentences {
    static final Path DOCUMENT = Path.of("../shared/DOC.md");
    /** Where no promise is numbered: under 'Description' and above it. */
    static final int DESCRIPTION = 0;

    private static final Map<String, Long> NAMES = Map.of("BAD", -1L, "STATE", -2L, "FULL", -3L, "NONE", -9L,
            "NO", -1000000000000000000L, "NOT", -2000000000000000000L,
            "LOW", (long) Integer.MIN_VALUE, "HIGH", (long) Integer.MAX_VALUE);
    private static final Map<Integer, String> SECTIONS = sections();

    private static int quoted = 0;
    private static int answers = 0;
    private static int wrong = 0;
    private static String here = "";

    private Sentences() { }

    private static Map<Integer, String> sections() {
        Map<Integer, String> found = new HashMap<>();
        String text;
        try {
            text = Files.readString(DOCUMENT);
        } catch (IOException e) {
            throw new UncheckedIOException(e);
        }
        String[] parts = text.split("\n## Promise ");
        found.put(DESCRIPTION, plain(parts[0]));
        for (int i = 1; i < parts.length; i++) {
            found.put(Integer.parseInt(parts[i].substring(0, parts[i].indexOf(':'))), plain(parts[i]));
        }
        return found;
    }

    private static String plain(String text) {
        return text.replaceAll("\\s+", " ");
    }

    static void sentence(int promise, String words, Runnable test) {
        here = (promise == DESCRIPTION ? "description" : "promise " + promise) + " '" + words + "'";
        quoted++;
        if (!SECTIONS.getOrDefault(promise, "").contains(plain(words))) {
            wrong("the document does not say so");
        }
        int before = answers;
        test.run();
        if (answers == before) {
            wrong("nothing was asked");
        }
    }

    static void wrong(String what) {
        wrong++;
        System.out.println(here + ": " + what);
    }

    static void due(String call, long got, long want) {
        answers++;
        if (got != want) {
            wrong(call + " answered " + got + ", due is " + want);
        }
    }

    /** A row is a call and, behind '=', the answer that is due; without it any answer but a refusal is. */
    static void says(PileShares cap, String rows) {
        for (String row : rows.split(";")) {
            int equals = row.indexOf('=');
            if (equals >= 0) {
                due(row.substring(0, equals).trim(), answer(cap, row.substring(0, equals)), number(row.substring(equals + 1)));
            } else if (!row.isBlank()) {
                does(cap, row);
            }
        }
    }

    private static void does(PileShares cap, String call) {
        long got = answer(cap, call);
        if (got <= -10 && call.contains("tells(") || got == -1 || got == -2 || got == -3) {
            wrong(call.trim() + " was refused with " + got);
        }
    }

    static long answer(PileShares cap, String call) {
        String plain = call.trim();
        int open = plain.indexOf('(');
        String list = plain.substring(open + 1, plain.length() - 1);
        String[] words = list.isBlank() ? new String[0] : list.split(",");
        int[] args = new int[words.length];
        for (int i = 0; i < words.length; i++) {
            args[i] = (int) number(words[i]);
        }
        return Calls.answer(cap, plain.substring(0, open), args);
    }

    private static long number(String word) {
        String plain = word.trim();
        return NAMES.containsKey(plain) ? NAMES.get(plain) : Long.parseLong(plain);
    }

    /** A new object that was told a text. */
    static PileShares cap(String text) {
        PileShares cap = new PileShares();
        write(cap, text);
        if (cap.tells() < 0) {
            wrong("tells() of " + text + " was refused");
        }
        return cap;
    }

    static void write(PileShares cap, String text) {
        for (char letter : text.toCharArray()) {
            cap.type(letter);
        }
    }

    static void end() {
        System.out.println(quoted + " sentences, " + answers + " answers, " + wrong + " not as due");
        if (wrong != 0) {
            System.exit(1);
        }
    }
}
