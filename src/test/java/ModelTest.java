import java.util.ArrayList;
import java.util.List;
import java.util.Random;

/** Random runs against the plain model, and all small pairs of patterns against all short rows. */
public final class ModelTest {
    private static final int RUNS = 1500;
    private static final int CALLS = 512;
    private static final String[] WORDS = {"a", "b", "c", "0", "ab", "abcdef", "zzzzzz"};
    private static final int[] EXTREMES = {-1, 16, 24, 25, 32, Integer.MIN_VALUE, Integer.MAX_VALUE};

    private final Random random;
    private final TopicDesk desk = new TopicDesk();
    private final PlainDesk plain = new PlainDesk();
    private final int words;
    private final int queues;

    private ModelTest(long seed) {
        random = new Random(seed);
        words = 1 + random.nextInt(WORDS.length);
        queues = 1 + random.nextInt(4) * random.nextInt(6);
    }

    public static void main(String[] args) {
        for (int run = 0; run < RUNS; run++) {
            ModelTest test = new ModelTest(run);
            int calls = 0;
            while (calls < CALLS) {
                calls += test.step("run " + run + " call " + calls + ": ");
            }
        }
        allSmallPairs();
        beyondTheLastCall();
        Checks.finish();
    }

    /** One or more calls; answers how many. */
    private int step(String where) {
        int i = binding();
        int j = binding();
        switch (random.nextInt(14)) {
            case 0: case 1: {
                int calls = text(where, true);
                int queue = oddly() ? extreme() : random.nextInt(queues);
                same(where + "bind " + queue, Checks.answer(() -> desk.bind(queue)), Checks.answer(() -> plain.bind(queue)));
                return calls + 1;
            }
            case 2: case 3: {
                int calls = text(where, false);
                same(where + "route", Checks.answer(desk::route), Checks.answer(plain::route));
                return calls + 1;
            }
            case 4: case 5: {
                int calls = text(where, false);
                int value = random.nextInt();
                same(where + "keep", Checks.answer(() -> desk.keep(value)), Checks.answer(() -> plain.keep(value)));
                return calls + 1;
            }
            case 6: {
                int calls = text(where, false);
                same(where + "lose", Checks.answer(desk::lose), Checks.answer(plain::lose));
                return calls + 1;
            }
            case 7:
                same(where + "fault", desk.fault(), plain.fault());
                if (random.nextInt(3) == 0) {
                    same(where + "free " + i, desk.free(i), plain.free(i));
                }
                return 2;
            case 8: {
                int what = oddly() ? extreme() : random.nextInt(4);
                same(where + "about " + i + " " + what, desk.about(i, what), plain.about(i, what));
                return 1;
            }
            case 9: {
                int k = oddly() ? extreme() : random.nextInt(12);
                same(where + "kept " + i + " " + k, Checks.answer(() -> desk.kept(i, k)), Checks.answer(() -> plain.kept(i, k)));
                return 1;
            }
            case 10: {
                int at = oddly() ? extreme() : random.nextInt(12);
                same(where + "sign " + i + " " + at, desk.sign(i, at), plain.sign(i, at));
                return 1;
            }
            case 11:
                same(where + "both " + i + " " + j, desk.both(i, j), plain.both(i, j));
                return 1;
            case 12:
                same(where + "only " + i + " " + j, desk.only(i, j), plain.only(i, j));
                return 1;
            default: {
                int queue = oddly() ? extreme() : random.nextInt(queues);
                same(where + "spare " + queue, desk.spare(queue), plain.spare(queue));
                return 1;
            }
        }
    }

    private int binding() {
        return oddly() ? extreme() : random.nextInt(random.nextBoolean() ? 8 : 24);
    }

    private boolean oddly() {
        return random.nextInt(25) == 0;
    }

    private int extreme() {
        return EXTREMES[random.nextInt(EXTREMES.length)];
    }

    /** Types a text that is mostly a pattern or topic; answers how many calls that took. */
    private int text(String where, boolean wild) {
        StringBuilder text = new StringBuilder();
        int parts = 1 + random.nextInt(oddly() ? 8 : 6);
        for (int p = 0; p < parts; p++) {
            int kind = wild ? random.nextInt(3) : 2;
            text.append(p > 0 ? "." : "").append(kind == 0 ? "*" : kind == 1 ? "#" : WORDS[random.nextInt(words)]);
        }
        if (oddly()) {
            text.setCharAt(random.nextInt(text.length()), (char) (33 + random.nextInt(94)));
        }
        if (oddly()) {
            text.insert(random.nextInt(text.length() + 1), "ab.*#~".charAt(random.nextInt(6)));
        }
        int calls = 0;
        for (int from = 0; from < text.length(); from += 8) {
            String piece = text.substring(from, Math.min(text.length(), from + 8));
            typeBoth(where, Checks.packed(piece), piece.length());
            calls++;
        }
        if (oddly()) {
            typeBoth(where, random.nextLong() & 0x7F7F7F7F7F7F7F7FL, random.nextInt(12) - 2);
            calls++;
        }
        return calls;
    }

    private void typeBoth(String where, long word, int n) {
        same(where + "type " + word + " " + n, desk.type(word, n), plain.type(word, n));
    }

    private static void same(String call, Object got, Object want) {
        Checks.due(call, got, want);
    }

    /** The rows up to six words are all that patterns of up to three parts need. */
    private static void allSmallPairs() {
        List<String> patterns = texts(List.of("a", "*", "#"), 3);
        List<String> rows = texts(List.of("a", "z"), 6);
        for (String first : patterns) {
            for (String second : patterns) {
                TopicDesk desk = Checks.deskOf(first, second);
                same("both " + first + " " + second, desk.both(0, 1), fewest(first, second, true, rows));
                same("only " + first + " " + second, desk.only(0, 1), fewest(first, second, false, rows));
            }
        }
    }

    /** All texts of one up to most of these parts, the shorter ones first. */
    private static List<String> texts(List<String> parts, int most) {
        List<String> all = new ArrayList<>(parts);
        int from = 0;
        for (int length = 2; length <= most; length++) {
            int to = all.size();
            for (int at = from; at < to; at++) {
                for (String part : parts) {
                    all.add(all.get(at) + "." + part);
                }
            }
            from = to;
        }
        return all;
    }

    private static int fewest(String first, String second, boolean fitsSecond, List<String> rows) {
        for (String row : rows) {
            if (PlainDesk.fits(row, first) && PlainDesk.fits(row, second) == fitsSecond) {
                return row.split("\\.").length;
            }
        }
        return 0;
    }

    /** What later calls answer is free, but the machine must not throw in them either. */
    private static void beyondTheLastCall() {
        ModelTest test = new ModelTest(-1);
        for (int calls = 0; calls < 20 * CALLS; calls++) {
            test.step("late call " + calls + ": ");
        }
    }
}
