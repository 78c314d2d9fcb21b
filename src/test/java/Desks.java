/** Desks in states that boundary tests begin with. */
final class Desks {
    static final int BINDINGS = 24;
    static final int QUEUES = 16;
    static final int MOST_KEPT = 20;
    /** Six words of six signs: the longest topic, and as long as a pattern can be. */
    static final String LONGEST = "abcdef.ghijkl.mnopqr.stuvwx.yz0123.456789";
    /** Numbers of no binding, queue, sign, what or n, with the least and the most of an int. */
    static final int[] FAR_OFF = {Integer.MIN_VALUE, Integer.MIN_VALUE + 1, -2, -1, 60, 64, 255, 256,
        1 << 16, 1 << 24, Integer.MAX_VALUE - 1, Integer.MAX_VALUE};

    static final String[] NO_TOPICS = {"", ".", "a.", ".a", "a..b", "A", "abcdefg", "*", "#", "a.*",
        "a.b.c.d.e.f.g"};
    static final int[] NO_TOPIC_FAULTS = {0, 0, 2, 0, 2, 0, 6, 0, 0, 2, 11};

    private Desks() {
    }

    /** Three bindings, the one in the middle freed again, two topics kept, one routed, a fault of 2. */
    static TopicDesk some() {
        TopicDesk desk = new TopicDesk();
        Checks.due("bind #", Checks.bind(desk, "#", 3), 0);
        Checks.due("bind b", Checks.bind(desk, "b", 3), 1);
        Checks.due("bind *.a", Checks.bind(desk, "*.a", 3), 2);
        Checks.due("free 1", desk.free(1), true);
        Checks.due("keep b.a", Checks.keep(desk, "b.a", 7), 1);
        Checks.due("keep a", Checks.keep(desk, "a", -7), 2);
        Checks.due("route c.a", Checks.route(desk, "c.a"), 8);
        Checks.due("route a.", Checks.route(desk, "a."), "IllegalArgumentException");
        return desk;
    }

    /** All bindings are bound and all that can be kept is kept. */
    static TopicDesk full() {
        TopicDesk desk = new TopicDesk();
        for (int i = 0; i < BINDINGS; i++) {
            Checks.due("bind", Checks.bind(desk, i % 3 == 0 ? "#" : "*." + letter(i), i % QUEUES), i);
        }
        for (int n = 0; n < MOST_KEPT; n++) {
            Checks.due("keep", Checks.keep(desk, "m." + letter(n), 100 + n), n + 1);
        }
        // Bindings 0, 3, 6 .. 21 and 1: the queues 0, 1, 2, 3, 5, 6, 9, 12 and 15.
        Checks.due("route", Checks.route(desk, "x.b"), 0x926F);
        return desk;
    }

    static TopicDesk typed(TopicDesk desk, String text) {
        Checks.type(desk, text);
        return desk;
    }

    static String letter(int n) {
        return String.valueOf((char) ('a' + n));
    }

    /** A text of this many parts, all alike. */
    static String parts(String part, int count) {
        StringBuilder text = new StringBuilder(part);
        for (int p = 1; p < count; p++) {
            text.append('.').append(part);
        }
        return text.toString();
    }
}
