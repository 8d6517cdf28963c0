import java.io.IOException;
import java.io.OutputStream;
import java.nio.file.Files;
import java.nio.file.Path;
import java.util.ArrayList;
import java.util.List;
import java.util.concurrent.TimeUnit;
import java.util.regex.Matcher;
import java.util.regex.Pattern;
import java.util.stream.Collectors;
import java.util.stream.Stream;
import javax.tools.ToolProvider;

/**
 * Tests the tests, by hand and not in .ci/run: changes one thing in the class (an operator, a number, an answer, a whole
 * statement), and prints each change that none of the tests sees. Runs in the project's folder, with the names of the
 * tests as arguments; what they need must be compiled into the folder that the first argument names.
 */
public final class Mutants {
    private static final Path SOURCE = Path.of("src/main/java/PileShares.java");
    private static final String[][] SWAPS = {{" < ", " <= "}, {" <= ", " < "}, {" > ", " >= "}, {" >= ", " > "},
        {" == ", " != "}, {" != ", " == "}, {" && ", " || "}, {" || ", " && "}, {" + ", " - "}, {" - ", " + "}, {" * ", " + "},
        {" += ", " -= "}, {" |= ", " ^= "}, {" & ~", " & "}, {"++;", "--;"}, {"--;", "++;"}, {"continue;", "break;"},
        {"return BAD;", "return STATE;"}, {"return STATE;", "return BAD;"}, {"return FULL;", "return STATE;"},
        {"return NO;", "return NOT;"}, {"return NOT;", "return NO;"}, {"return NONE;", "return BAD;"}, {": NONE;", ": BAD;"},
        {": FULL;", ": STATE;"}, {"return true;", "return false;"}, {"return false;", "return true;"}, {"= true;", "= false;"},
        {"= false;", "= true;"}, {"if (!", "if ("}, {"(-", "("}, {"floorDiv(", "max("}};

    private record Mutant(int line, String was, String is) { }

    private Mutants() { }

    public static void main(String[] args) throws IOException {
        Path tests = Path.of(args[0]);
        List<String> names = List.of(args).subList(1, args.length);
        String[] lines = Files.readString(SOURCE).split("\n");
        List<Mutant> mutants = mutants(lines);
        System.out.println(mutants.size() + " changes");
        List<Mutant> unseen = mutants.parallelStream().filter(m -> !isSeen(m, lines, tests, names)).collect(Collectors.toList());
        for (Mutant m : unseen) {
            System.out.println("line " + m.line + ": " + m.was.trim() + "\n      -> " + m.is.trim());
        }
        System.out.println(unseen.size() + " not seen");
    }

    private static List<Mutant> mutants(String[] lines) {
        List<Mutant> found = new ArrayList<>();
        for (int i = 0; i < lines.length; i++) {
            String line = lines[i];
            if (line.matches("\\s*(/?\\*|//|import|public final class).*")) {
                continue;
            }
            for (String[] swap : SWAPS) {
                for (int at = line.indexOf(swap[0]); at >= 0; at = line.indexOf(swap[0], at + 1)) {
                    found.add(new Mutant(i + 1, line, line.substring(0, at) + swap[1] + line.substring(at + swap[0].length())));
                }
            }
            Matcher number = Pattern.compile("\\b\\d+\\b").matcher(line);
            while (number.find() && number.group().length() < 9) {
                for (int by : new int[] {-1, 1}) {
                    String other = "" + (Integer.parseInt(number.group()) + by);
                    found.add(new Mutant(i + 1, line, line.substring(0, number.start()) + other + line.substring(number.end())));
                }
            }
            if (line.matches("\\s+[\\w.\\[\\]]+(\\(.*\\)| [^=(]*= .*|\\+\\+|--);") && !line.contains("return ")) {
                found.add(new Mutant(i + 1, line, ";"));
            }
        }
        return found;
    }

    /** A change that does not compile counts as seen. */
    private static boolean isSeen(Mutant mutant, String[] lines, Path tests, List<String> names) {
        try {
            Path folder = Files.createTempDirectory("mutant");
            String[] changed = lines.clone();
            changed[mutant.line - 1] = mutant.is;
            Path source = Files.writeString(folder.resolve("PileShares.java"), String.join("\n", changed));
            boolean compiles = ToolProvider.getSystemJavaCompiler().run(null, OutputStream.nullOutputStream(), OutputStream.nullOutputStream(),
                    "-d", folder.toString(), source.toString()) == 0;
            boolean seen = !compiles;
            for (int i = 0; i < names.size() && !seen; i++) {
                seen = !passes(folder, tests, names.get(i));
            }
            remove(folder);
            return seen;
        } catch (IOException e) {
            throw new IllegalStateException(e);
        }
    }

    private static void remove(Path folder) throws IOException {
        try (Stream<Path> inside = Files.list(folder)) {
            for (Path file : inside.collect(Collectors.toList())) {
                Files.delete(file);
            }
        }
        Files.delete(folder);
    }

    private static boolean passes(Path folder, Path tests, String name) throws IOException {
        Process run = new ProcessBuilder("java", "-Xshare:auto", "-XX:TieredStopAtLevel=1", "-XX:+UseSerialGC", "-cp",
                folder + ":" + tests, name).redirectErrorStream(true).redirectOutput(ProcessBuilder.Redirect.DISCARD).start();
        try {
            boolean ended = run.waitFor(60, TimeUnit.SECONDS);
            run.destroyForcibly();
            return ended && run.exitValue() == 0;
        } catch (InterruptedException e) {
            throw new IllegalStateException(e);
        }
    }
}
