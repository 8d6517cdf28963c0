import java.util.ArrayList;
import java.util.HashSet;
import java.util.List;
import java.util.Random;
import java.util.Set;

/** Runs of random calls, the same ones each time, on the class and on the plain model; every answer must be the same. */
public final class AgainstModelTest {
    private static final int RUNS = 1000;
    private static final int CALLS = 120;
    /** Calls that the model works at for long, or that leave little of the structure, so that they come seldom. */
    private static final List<String> SELDOM = List.of("extra", "spots", "ask", "kerns", "odds", "type", "tells", "loses",
            "undo", "back");
    private static final String[] NAMES = {"type", "clear", "tells", "drives", "loses", "mends", "loads", "moves",
        "winds", "undo", "pile", "column", "sum", "sharing", "share", "press", "most", "factor", "kern", "kerns",
        "without", "key", "extra", "odds", "hunts", "sees", "forget", "spots", "ask", "keep", "back", "count"};

    private final Random random;
    private final PileShares got = new PileShares();
    private final PlainModel want = new PlainModel();
    private final List<String> calls = new ArrayList<>();
    private static int settled = 0;
    private static int asked = 0;
    /** How far from the middle piles are, in this run. */
    private final int span;

    private AgainstModelTest(long seed) {
        random = new Random(seed);
        span = 2 + random.nextInt(8);
    }

    public static void main(String[] args) {
        int first = args.length > 0 ? Integer.parseInt(args[0]) : 0;
        int runs = args.length > 1 ? Integer.parseInt(args[1]) : RUNS;
        int wrong = 0;
        for (int seed = first; seed < first + runs && wrong < 5; seed++) {
            AgainstModelTest test = new AgainstModelTest(seed);
            if (!test.run()) {
                wrong++;
                System.out.println("seed " + seed + ": " + String.join(" ", test.calls));
            }
        }
        System.out.println(wrong == 0 ? "as the model: " + runs + " runs" : "not as the model");
        System.out.println("of " + asked + " shares " + settled + " were settled");
        if (wrong != 0) {
            System.exit(1);
        }
    }

    private boolean run() {
        if (random.nextInt(12) > 0 && !tellsText(goodText())) {
            return false;
        }
        for (int i = 0; i < CALLS; i++) {
            if (random.nextInt(40) == 0) {
                String text = random.nextBoolean() ? goodText() : spoilt(goodText());
                if (!tellsText(text)) {
                    return false;
                }
            }
            String name = NAMES[random.nextInt(NAMES.length)];
            if (SELDOM.contains(name) && random.nextInt(6) > 0) {
                continue;
            }
            if (!same(name, argumentsOf(name))) {
                return false;
            }
        }
        return true;
    }

    private boolean tellsText(String text) {
        if (random.nextInt(3) > 0 && !same("clear")) {
            return false;
        }
        for (char letter : text.toCharArray()) {
            if (!same("type", letter)) {
                return false;
            }
        }
        return same("tells");
    }

    /** Mostly a text without an error; now and then two piles are at one place or there are too many letters. */
    private String goodText() {
        StringBuilder text = new StringBuilder();
        Set<Integer> taken = new HashSet<>();
        int items = random.nextInt(8) + random.nextInt(8);
        int stiffest = 1 + random.nextInt(9);
        int strongest = 1 + random.nextInt(99);
        int columns = 0;
        boolean wind = false;
        for (int i = 0; i < items && text.length() < 145; i++) {
            int kind = random.nextInt(9);
            int x = near();
            int y = near();
            if (kind < 6) {
                if (taken.contains(100 * x + y) && random.nextInt(10) > 0 || taken.size() == 8) {
                    continue;
                }
                taken.add(100 * x + y);
                text.append("p").append(blanks()).append(x).append(" ").append(blanks()).append(y);
                text.append(" ").append(1 + random.nextInt(stiffest)).append(" ").append(1 + random.nextInt(strongest));
            } else if (kind < 8 && columns < 5) {
                columns++;
                text.append("c").append(9 + inner()).append(" ").append(9 + inner()).append(" ").append(random.nextInt(100));
            } else if (!wind) {
                wind = true;
                int much = random.nextInt(3) == 0 ? 99 : 20;
                text.append("w ").append(99 + off(much)).append(" ").append(99 + off(much));
            } else {
                continue;
            }
            text.append(blanks()).append(";").append(blanks());
        }
        return text.toString();
    }

    /** Loads are mostly among the piles, or few distributions would be settled. */
    private int inner() {
        return off(random.nextInt(4) == 0 ? span : (span + 1) / 2);
    }

    private int near() {
        return 9 + off(span);
    }

    private String blanks() {
        return random.nextInt(12) == 0 ? "  " : "";
    }

    private String spoilt(String text) {
        StringBuilder spoilt = new StringBuilder(text);
        String letters = "pcw; 0189x";
        int at = random.nextInt(text.length() + 1);
        char letter = random.nextInt(8) == 0 ? (char) random.nextInt(256)
                : letters.charAt(random.nextInt(letters.length()));
        switch (random.nextInt(4)) {
            case 0 -> spoilt.insert(at, letter);
            case 1 -> spoilt.setLength(at);
            case 2 -> spoilt.insert(at, "w5 5;");
            default -> {
                if (at < text.length()) {
                    spoilt.setCharAt(at, letter);
                }
            }
        }
        return spoilt.toString();
    }

    private int[] argumentsOf(String name) {
        int[] args = switch (name) {
            case "type" -> ints(random.nextInt(256));
            case "drives" -> ints(off(span), off(span), 1 + random.nextInt(9), 1 + random.nextInt(99));
            case "loses", "mends" -> ints(somePile());
            case "loads" -> ints(someColumn(), random.nextInt(100));
            case "moves" -> ints(someColumn(), inner(), inner());
            case "winds" -> ints(off(random.nextInt(3) == 0 ? 99 : 20), off(20));
            case "pile" -> ints(somePile(), random.nextInt(6));
            case "column" -> ints(someColumn(), random.nextInt(3));
            case "sum" -> ints(random.nextInt(5));
            case "share", "without" -> ints(somePile(), random.nextInt(3));
            case "press" -> ints(off(9), off(9), random.nextInt(2));
            case "sharing", "most" -> ints(random.nextInt(3));
            case "factor", "kerns", "spots", "keep", "back" -> ints(random.nextInt(2));
            case "kern" -> ints(off(span), off(span));
            case "extra" -> ints(1 + random.nextInt(9), 1 + random.nextInt(99));
            case "odds" -> ints(random.nextInt(11), random.nextInt(2));
            case "hunts" -> ints(1 + random.nextInt(99));
            case "sees" -> ints(somePile(), random.nextInt(random.nextBoolean() ? 5 : 40));
            case "count" -> ints(random.nextInt(7));
            default -> ints();
        };
        if (args.length > 0 && random.nextInt(15) == 0) {
            int[] odd = {-1, -10, 10, -100, 100, 256, 1000, 11, 3, 2, 6, 7, 8, 0, Integer.MIN_VALUE, Integer.MAX_VALUE};
            args[random.nextInt(args.length)] = odd[random.nextInt(odd.length)];
        }
        return args;
    }

    private int somePile() {
        return random.nextInt(Math.max(1, got.count(0)) + (random.nextInt(8) == 0 ? 1 : 0));
    }

    private int someColumn() {
        return random.nextInt(Math.max(1, got.count(2)) + (random.nextInt(8) == 0 ? 1 : 0));
    }

    private int off(int far) {
        return random.nextInt(2 * far + 1) - far;
    }

    private static int[] ints(int... args) {
        return args;
    }

    private boolean same(String name, int... args) {
        long due = Calls.answer(want, name, args);
        long answer = Calls.answer(got, name, args);
        if (name.equals("share") && due != PileShares.NO) {
            asked++;
            settled += due == PileShares.NOT ? 0 : 1;
        }
        calls.add(Calls.text(name, args) + "=" + answer);
        if (answer != due) {
            calls.add("due is " + due);
        }
        return answer == due;
    }
}
