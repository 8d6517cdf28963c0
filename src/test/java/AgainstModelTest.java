import java.util.ArrayList;
import java.util.HashSet;
import java.util.List;
import java.util.Random;
import java.util.Set;
import java.util.concurrent.atomic.AtomicInteger;
import java.util.stream.IntStream;

/** Runs of random calls, the same ones each time, on the class and on the plain model; every answer must be the same. */
public final class AgainstModelTest {
    private static final int RUNS = 1000;
    private static final int CALLS = 120;
    /** Calls that the model works at for long, or that leave little of the structure, so that they come seldom. */
    private static final List<String> SELDOM = List.of("extra", "spots", "ask", "kerns", "odds", "type", "tells", "loses",
            "undo", "back");
    private static final String[] NAMES = {"type", "clear", "tells", "drives", "loses", "mends", "loads", "moves",
        "winds", "undo", "pile", "column", "sum", "sharing", "share", "press", "most", "factor", "kern", "kerns",
        "without", "key", "extra", "odds", "hunts", "sees", "forget", "spots", "ask", "keep", "back", "count"};

    private final Random random;
    private final PileShares got = new PileShares();
    private final PlainModel want = new PlainModel();
    private final List<String> calls = new ArrayList<>();
    /** Structures with many rounds, and such whose rounds never end; random ones are hardly ever like them. */
    private static final String[] HARD = {
        "p14 18 3 10;p10 13 3 10;p6 12 3 10;p3 12 1 10;p15 2 2 10;p10 11 2 10;c5 12 9;",
        "p11 7 5 20;p15 2 5 9;p17 15 9 9;p8 10 1 9;p0 12 7 9;p14 3 7 30;c14 3 50;",
        "p0 16 9 9;p10 14 6 20;p15 18 5 9;p12 0 5 9;p16 18 2 9;p4 18 2 9;c15 18 7;",
        "p10 14 1 9;p17 14 9 9;p13 11 9 40;p0 10 4 9;p14 11 3 9;p15 5 8 9;p16 5 1 9;c15 6 30;",
        "p18 16 1 9;p9 14 2 9;p3 9 1 9;p7 13 1 9;p7 14 1 9;p0 17 2 9;p6 14 2 9;c4 10 60;",
        "p6 2 7 9;p6 10 9 9;p5 16 1 9;p4 6 6 9;p18 5 3 9;p6 15 3 9;p2 10 5 9;p0 0 7 9;c5 15 22;w109 96;",
        "p12 3 7 9;p0 1 4 9;p14 4 6 9;p5 14 3 9;p14 3 1 9;p10 13 8 9;p4 12 3 9;p17 2 2 9;c16 2 94;w90 135;",
        "p11 12 1 9;p17 17 7 9;p0 18 6 9;p10 13 9 9;p12 11 8 9;p13 9 7 9;p15 1 1 9;p18 18 1 9;c17 17 6;",
        "p6 6 7 9;p9 2 3 9;p16 17 4 9;p6 4 6 9;p13 0 6 9;p0 5 9 9;c10 0 48;w123 164;",
        "p12 10 9 9;p17 9 8 9;p13 11 9 9;p2 3 7 9;p12 14 9 9;p11 16 9 9;c12 10 19;w95 180;",
        "p12 12 1 90;p12 6 2 15;p8 11 2 2;p9 11 1 1;p6 10 2 8;c11 12 12;",
        "p12 12 1 9;p12 6 2 9;p8 11 2 9;p9 11 1 9;p6 10 2 9;p6 12 2 9;c11 12 6;"};
    private static final AtomicInteger SETTLED = new AtomicInteger();
    private static final AtomicInteger UNSTABLE = new AtomicInteger();
    private static final AtomicInteger ENDLESS = new AtomicInteger();
    /** How far from the middle piles are, in this run. */
    private final int span;

    private AgainstModelTest(long seed) {
        random = new Random(seed);
        span = 2 + random.nextInt(8);
    }

    public static void main(String[] args) {
        int first = args.length > 0 ? Integer.parseInt(args[0]) : 0;
        int runs = args.length > 1 ? Integer.parseInt(args[1]) : RUNS;
        boolean same = IntStream.range(first, first + runs).parallel().allMatch(AgainstModelTest::isSame);
        System.out.println(same ? "as the model: " + runs + " runs" : "not as the model");
        System.out.println(SETTLED + " distributions that were asked for were settled, " + UNSTABLE + " came to an unstable set, "
                + ENDLESS + " did not end");
        if (!same) {
            System.exit(1);
        }
    }

    private static boolean isSame(int seed) {
        AgainstModelTest test = new AgainstModelTest(seed);
        boolean same = test.run();
        if (!same) {
            System.out.println("seed " + seed + ": " + String.join(" ", test.calls));
        }
        return same;
    }

    private boolean run() {
        int start = random.nextInt(12);
        if (start > 0 && !tellsText(start < 4 ? HARD[random.nextInt(HARD.length)] : goodText())) {
            return false;
        }
        for (int i = 0; i < CALLS; i++) {
            if (random.nextInt(40) == 0) {
                String text = random.nextBoolean() ? goodText() : spoilt(goodText());
                if (!tellsText(text)) {
                    return false;
                }
            }
            String name = NAMES[random.nextInt(NAMES.length)];
            if (SELDOM.contains(name) && random.nextInt(6) > 0) {
                continue;
            }
            if (!same(name, argumentsOf(name))) {
                return false;
            }
        }
        return true;
    }

    private boolean tellsText(String text) {
        if (random.nextInt(3) > 0 && !same("clear")) {
            return false;
        }
        for (char letter : text.toCharArray()) {
            if (!same("type", letter)) {
                return false;
            }
        }
        return same("tells");
    }

    /** Mostly a text without an error; now and then two piles are at one place or there are too many letters. */
    private String goodText() {
        StringBuilder text = new StringBuilder();
        Set<Integer> taken = new HashSet<>();
        int items = random.nextInt(8) + random.nextInt(8);
        int stiffest = 1 + random.nextInt(9);
        int strongest = 1 + random.nextInt(99);
        int columns = 0;
        boolean wind = false;
        for (int i = 0; i < items && text.length() < 145; i++) {
            int kind = random.nextInt(9);
            int x = near();
            int y = near();
            if (kind < 6) {
                if (taken.contains(100 * x + y) && random.nextInt(10) > 0 || taken.size() == 8) {
                    continue;
                }
                taken.add(100 * x + y);
                text.append("p").append(blanks()).append(x).append(" ").append(blanks()).append(y);
                text.append(" ").append(1 + random.nextInt(stiffest)).append(" ").append(1 + random.nextInt(strongest));
            } else if (kind < 8 && columns < 5) {
                columns++;
                text.append("c").append(9 + inner()).append(" ").append(9 + inner()).append(" ").append(random.nextInt(100));
            } else if (!wind) {
                wind = true;
                int much = random.nextInt(3) == 0 ? 99 : 20;
                text.append("w ").append(99 + off(much)).append(" ").append(99 + off(much));
            } else {
                continue;
            }
            text.append(blanks()).append(";").append(blanks());
        }
        return text.toString();
    }

    /** Loads are mostly among the piles, or few distributions would be settled. */
    private int inner() {
        return off(random.nextInt(4) == 0 ? span : (span + 1) / 2);
    }

    private int near() {
        return 9 + off(span);
    }

    private String blanks() {
        return random.nextInt(12) == 0 ? "  " : "";
    }

    private String spoilt(String text) {
        StringBuilder spoilt = new StringBuilder(text);
        String letters = "pcw; 0189x";
        int at = random.nextInt(text.length() + 1);
        char letter = random.nextInt(8) == 0 ? (char) random.nextInt(256)
                : letters.charAt(random.nextInt(letters.length()));
        switch (random.nextInt(4)) {
            case 0 -> spoilt.insert(at, letter);
            case 1 -> spoilt.setLength(at);
            case 2 -> spoilt.insert(at, "w5 5;");
            default -> {
                if (at < text.length()) {
                    spoilt.setCharAt(at, letter);
                }
            }
        }
        return spoilt.toString();
    }

    private int[] argumentsOf(String name) {
        int[] args = switch (name) {
            case "type" -> ints(random.nextInt(256));
            case "drives" -> ints(off(span), off(span), 1 + random.nextInt(9), 1 + random.nextInt(99));
            case "loses", "mends" -> ints(somePile());
            case "loads" -> ints(someColumn(), random.nextInt(100));
            case "moves" -> ints(someColumn(), inner(), inner());
            case "winds" -> ints(off(random.nextInt(3) == 0 ? 99 : 20), off(20));
            case "pile" -> ints(somePile(), random.nextInt(6));
            case "column" -> ints(someColumn(), random.nextInt(3));
            case "sum" -> ints(random.nextInt(5));
            case "share", "without" -> ints(somePile(), random.nextInt(3));
            case "press" -> ints(off(9), off(9), random.nextInt(2));
            case "sharing", "most" -> ints(random.nextInt(3));
            case "factor", "kerns", "spots", "keep", "back" -> ints(random.nextInt(2));
            case "kern" -> ints(off(span), off(span));
            case "extra" -> ints(1 + random.nextInt(9), 1 + random.nextInt(99));
            case "odds" -> ints(random.nextInt(11), random.nextInt(2));
            case "hunts" -> ints(1 + random.nextInt(99));
            case "sees" -> ints(somePile(), random.nextInt(random.nextBoolean() ? 5 : 40));
            case "count" -> ints(random.nextInt(7));
            default -> ints();
        };
        if (args.length > 0 && random.nextInt(15) == 0) {
            int[] odd = {-1, -10, 10, -100, 100, 256, 1000, 11, 3, 2, 6, 7, 8, 0, Integer.MIN_VALUE, Integer.MAX_VALUE};
            args[random.nextInt(args.length)] = odd[random.nextInt(odd.length)];
        }
        return args;
    }

    private int somePile() {
        return random.nextInt(Math.max(1, got.count(0)) + (random.nextInt(8) == 0 ? 1 : 0));
    }

    private int someColumn() {
        return random.nextInt(Math.max(1, got.count(2)) + (random.nextInt(8) == 0 ? 1 : 0));
    }

    private int off(int far) {
        return random.nextInt(2 * far + 1) - far;
    }

    private static int[] ints(int... args) {
        return args;
    }

    private boolean same(String name, int... args) {
        long due = Calls.answer(want, name, args);
        long answer = Calls.answer(got, name, args);
        if (name.equals("sharing") && due != PileShares.BAD && args[0] == 0) {
            boolean isSettled = got.sharing(1) == 1;
            (isSettled ? SETTLED : due == 40 ? ENDLESS : UNSTABLE).incrementAndGet();
        }
        calls.add(Calls.text(name, args) + "=" + answer);
        if (answer != due) {
            calls.add("due is " + due);
        }
        return answer == due;
    }
}
