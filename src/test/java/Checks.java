import java.util.function.Supplier;

/** What the tests share: typing texts, answers as objects, and counting what is not as due. */
final class Checks {
    private static final int MOST_SHOWN = 20;
    private static int made = 0;
    private static int wrong = 0;

    private Checks() {
    }

    static void due(String call, Object got, Object want) {
        made++;
        if (!want.equals(got)) {
            wrong++;
            if (wrong <= MOST_SHOWN) {
                System.out.println(call + " answered " + got + ", due is " + want);
            }
        }
    }

    /** The answer, or the exact name of what was thrown. */
    static Object answer(Supplier<Object> call) {
        try {
            return call.get();
        } catch (RuntimeException e) {
            return e.getClass().getSimpleName();
        }
    }

    static long packed(String signs) {
        long word = 0;
        for (char sign : signs.toCharArray()) {
            word = word << 8 | sign;
        }
        return word;
    }

    /** Types the text in pieces of up to eight signs. */
    static void type(TopicDesk desk, String text) {
        for (int from = 0; from < text.length(); from += 8) {
            String piece = text.substring(from, Math.min(text.length(), from + 8));
            due("type " + piece, desk.type(packed(piece), piece.length()), true);
        }
    }

    static Object bind(TopicDesk desk, String pattern, int queue) {
        type(desk, pattern);
        return answer(() -> desk.bind(queue));
    }

    static Object route(TopicDesk desk, String topic) {
        type(desk, topic);
        return answer(desk::route);
    }

    static Object keep(TopicDesk desk, String topic, int value) {
        type(desk, topic);
        return answer(() -> desk.keep(value));
    }

    static Object lose(TopicDesk desk, String topic) {
        type(desk, topic);
        return answer(desk::lose);
    }

    static Object kept(TopicDesk desk, int i, int k) {
        return answer(() -> desk.kept(i, k));
    }

    /** A new desk with these patterns, all bound to queue 0. */
    static TopicDesk deskOf(String... patterns) {
        TopicDesk desk = new TopicDesk();
        for (int i = 0; i < patterns.length; i++) {
            due("bind " + patterns[i], bind(desk, patterns[i], 0), i);
        }
        return desk;
    }

    static void finish() {
        System.out.println(made + " answers looked at, " + wrong + " not as due");
        if (wrong != 0) {
            System.exit(1);
        }
    }
}
