/** Each promise of the document by hand: ordinary inputs, its edges, wrong inputs. */
public final class PromiseTest {
    private static final String ILLEGAL_ARGUMENT = "IllegalArgumentException";
    private static final String ILLEGAL_STATE = "IllegalStateException";
    private static final String NO_SUCH = "NoSuchElementException";
    private static final int[] NO_BINDINGS = {-1, 24, Integer.MIN_VALUE, Integer.MAX_VALUE};

    private PromiseTest() {
    }

    public static void main(String[] args) {
        newObject();
        type();
        typeLimits();
        bind();
        bindFull();
        faultOfPatterns();
        faultOfTopics();
        faultOfEachCall();
        free();
        route();
        routeFits();
        keep();
        keepFull();
        lose();
        about();
        aboutRouted();
        kept();
        keptOrder();
        sign();
        both();
        only();
        spare();
        spareAmongQueues();
        Checks.finish();
    }

    // Promise 1
    private static void newObject() {
        TopicDesk desk = new TopicDesk();
        Checks.due("1: NONE", TopicDesk.NONE, -1);
        Checks.due("1: fault", desk.fault(), -1);
        for (int i = 0; i < 24; i++) {
            Checks.due("1: free", desk.free(i), false);
            Checks.due("1: about", desk.about(i, 0), -1);
        }
        for (int queue = 0; queue < 16; queue++) {
            Checks.due("1: spare", desk.spare(queue), 0);
        }
        Checks.due("1: route", Checks.route(desk, "a"), 0);
        Checks.due("1: lose", Checks.lose(desk, "a"), false);
        Checks.due("1: bind", Checks.bind(desk, "#", 15), 0);
        Checks.due("1: about kept", desk.about(0, 2), 0);
        Checks.due("1: keep", Checks.keep(desk, "a", 1), 1);
        TopicDesk other = new TopicDesk();
        Checks.due("1: no state is shared", Checks.route(other, "a"), 0);
    }

    // Promise 2
    private static void type() {
        TopicDesk desk = new TopicDesk();
        Checks.due("2: n 0", desk.type(0x61L, 0), false);
        Checks.due("2: n -1", desk.type(0x61L, -1), false);
        Checks.due("2: n least", desk.type(0x61L, Integer.MIN_VALUE), false);
        Checks.due("2: n most", desk.type(0x61L, Integer.MAX_VALUE), false);
        Checks.due("2: n 9", desk.type(0x6161616161616161L, 9), false);
        Checks.due("2: byte 32", desk.type(0x6120L, 2), false);
        Checks.due("2: byte 127", desk.type(0x7F61L, 2), false);
        Checks.due("2: byte 255", desk.type(-1L, 8), false);
        Checks.due("2: byte 128+", desk.type(0xE1L, 1), false);
        Checks.due("2: byte 0", desk.type(0x61L, 2), false);
        Checks.due("2: higher bytes are not looked at", desk.type(0xFF00207F2A2E62L, 3), true);
        Checks.due("2: what was false changed nothing", Checks.answer(() -> desk.bind(0)), 0);
        Checks.due("2: highest first", desk.sign(0, 0), (int) '*');
        Checks.due("2: then the next", desk.sign(0, 1), (int) '.');
        Checks.due("2: lowest last", desk.sign(0, 2), (int) 'b');
        Checks.due("2: length", desk.about(0, 3), 3);
        Checks.due("2: signs 33 and 126", desk.type(0x217EL, 2), true);
        Checks.answer(desk::route);
        Checks.due("2: 33 stands on the tape", desk.fault(), 0);
        Checks.due("2: eight", desk.type(Checks.packed("a.b.c.d."), 8), true);
        Checks.due("2: and one", desk.type(Checks.packed("e"), 1), true);
        Checks.due("2: binds all nine", Checks.answer(() -> desk.bind(0)), 1);
        Checks.due("2: nine signs", desk.about(1, 3), 9);
        Checks.due("2: ninth sign", desk.sign(1, 8), (int) 'e');
    }

    private static void typeLimits() {
        TopicDesk desk = new TopicDesk();
        String most = "abcdef.ghijkl.mnopqr.stuvwx.yz0123.456789";
        Checks.type(desk, most + "!!!!!!!!!!!!!!!");
        Checks.due("2: 56 and 5", desk.type(Checks.packed("!!!!!"), 5), false);
        Checks.due("2: 56 and 4", desk.type(Checks.packed("!!!!"), 4), true);
        Checks.due("2: 60 and 1", desk.type(Checks.packed("!"), 1), false);
        Checks.due("2: 60 and 8", desk.type(Checks.packed("!!!!!!!!"), 8), false);
        Checks.due("2: bind", Checks.answer(() -> desk.bind(0)), ILLEGAL_ARGUMENT);
        Checks.due("2: fault behind the longest", desk.fault(), most.length());
        Checks.due("2: the tape is empty again", Checks.bind(desk, most, 0), 0);
        Checks.due("2: longest pattern", desk.about(0, 3), 41);
        Checks.due("2: longest topic", Checks.route(desk, most), 1);
    }

    // Promise 3
    private static void bind() {
        TopicDesk desk = new TopicDesk();
        Checks.due("3: queue 0", Checks.bind(desk, "a.*.#", 0), 0);
        Checks.due("3: queue 15", Checks.bind(desk, "a", 15), 1);
        Checks.due("3: queue 16", Checks.bind(desk, "a", 16), ILLEGAL_ARGUMENT);
        Checks.due("3: queue -1", Checks.bind(desk, "a", -1), ILLEGAL_ARGUMENT);
        Checks.due("3: queue least", Checks.bind(desk, "a", Integer.MIN_VALUE), ILLEGAL_ARGUMENT);
        Checks.due("3: empty tape", Checks.bind(desk, "", 0), ILLEGAL_ARGUMENT);
        Checks.due("3: no pattern", Checks.bind(desk, "a..b", 0), ILLEGAL_ARGUMENT);
        Checks.due("3: the tape is empty behind each", Checks.bind(desk, "a", 15), 2);
        Checks.due("3: one sign", desk.about(2, 3), 1);
        Checks.due("3: and behind a good one", Checks.bind(desk, "", 0), ILLEGAL_ARGUMENT);
        Checks.due("3: six parts", Checks.bind(desk, "*.*.#.#.a.b", 3), 3);
        desk.free(1);
        desk.free(2);
        Checks.due("3: least free", Checks.bind(desk, "b", 4), 1);
        Checks.due("3: new queue", desk.about(1, 0), 4);
        Checks.due("3: new pattern", desk.sign(1, 0), (int) 'b');
        Checks.due("3: next free", Checks.bind(desk, "c", 4), 2);
        Checks.due("3: then the next", Checks.bind(desk, "d", 4), 4);
    }

    private static void bindFull() {
        TopicDesk desk = new TopicDesk();
        for (int i = 0; i < 24; i++) {
            Checks.due("3: number", Checks.bind(desk, "a", i % 16), i);
        }
        Checks.due("3: none free", Checks.bind(desk, "b", 0), ILLEGAL_STATE);
        Checks.due("3: fault of it", desk.fault(), -1);
        Checks.due("3: the tape is empty then", Checks.bind(desk, "", 0), ILLEGAL_ARGUMENT);
        Checks.due("3: no pattern, none free", Checks.bind(desk, "a.", 0), ILLEGAL_ARGUMENT);
        Checks.due("3: no queue, none free", Checks.bind(desk, "a", 16), ILLEGAL_ARGUMENT);
        Checks.due("3: all queues", Checks.route(desk, "a"), 0xFFFF);
        desk.free(23);
        Checks.due("3: the last is free", Checks.bind(desk, "b", 0), 23);
    }

    // Promise 4
    private static void faultOfPatterns() {
        faultOf("", 0, true);
        faultOf(".", 0, true);
        faultOf("a.", 2, true);
        faultOf("a..b", 2, true);
        faultOf(".a", 0, true);
        faultOf("aA", 1, true);
        faultOf("a-b", 1, true);
        faultOf("a`", 1, true);
        faultOf("a{", 1, true);
        faultOf("a/", 1, true);
        faultOf("a:", 1, true);
        faultOf("abcdef", -1, true);
        faultOf("abcdefg", 6, true);
        faultOf("abcdef.ghijklm", 13, true);
        faultOf("abcdef*", 6, true);
        faultOf("a*", 1, true);
        faultOf("*a", 1, true);
        faultOf("#a", 1, true);
        faultOf("##", 1, true);
        faultOf("*#", 1, true);
        faultOf("#.*.a0z9", -1, true);
        faultOf("#.", 2, true);
        faultOf("a.b.c.d.e.f", -1, true);
        faultOf("a.b.c.d.e.f.g", 11, true);
        faultOf("a.b.c.d.e.f.", 11, true);
        faultOf("#.#.#.#.#.#.#", 11, true);
        faultOf("a.b.c.d.e.", 10, true);
        faultOf("a.b.c.d.e.*x", 11, true);
    }

    private static void faultOfTopics() {
        faultOf("", 0, false);
        faultOf("*", 0, false);
        faultOf("a.#", 2, false);
        faultOf("a*", 1, false);
        faultOf("a.b.c.d.e.f", -1, false);
        faultOf("a.b.c.d.e.f.", 11, false);
        faultOf("abcdefg", 6, false);
        faultOf("0.9.a.z", -1, false);
        faultOf("a.", 2, false);
        faultOf("Z", 0, false);
    }

    private static void faultOf(String text, int place, boolean pattern) {
        TopicDesk desk = new TopicDesk();
        Object got = pattern ? Checks.bind(desk, text, 0) : Checks.route(desk, text);
        Checks.due("4: take " + text, got, place == -1 ? (Object) 0 : ILLEGAL_ARGUMENT);
        Checks.due("4: fault of " + text, desk.fault(), place);
    }

    private static void faultOfEachCall() {
        TopicDesk desk = new TopicDesk();
        Checks.bind(desk, "a.b!", 16);
        Checks.due("4: looked at without a queue", desk.fault(), 3);
        Checks.bind(desk, "a.b", 16);
        Checks.due("4: none, without a queue", desk.fault(), -1);
        Checks.due("4: keep", Checks.keep(desk, "ab.!", 1), ILLEGAL_ARGUMENT);
        Checks.due("4: of keep", desk.fault(), 3);
        Checks.due("4: lose", Checks.lose(desk, "abc.*"), ILLEGAL_ARGUMENT);
        Checks.due("4: of lose", desk.fault(), 4);
        Checks.due("4: route", Checks.route(desk, "!"), ILLEGAL_ARGUMENT);
        Checks.due("4: of route", desk.fault(), 0);
        Checks.type(desk, "good");
        Checks.due("4: typing is no look", desk.fault(), 0);
        desk.free(0);
        desk.spare(0);
        desk.both(0, 0);
        Checks.due("4: still", desk.fault(), 0);
        Checks.due("4: lose good", Checks.lose(desk, ""), false);
        Checks.due("4: none now", desk.fault(), -1);
        Checks.due("4: told again", desk.fault(), -1);
    }

    // Promise 5
    private static void free() {
        TopicDesk desk = Checks.deskOf("a", "b", "#");
        Checks.due("5: free", desk.free(1), true);
        Checks.due("5: again", desk.free(1), false);
        Checks.due("5: never bound", desk.free(3), false);
        for (int i : NO_BINDINGS) {
            Checks.due("5: none such", desk.free(i), false);
        }
        Checks.due("5: about", desk.about(1, 0), -1);
        Checks.due("5: others stay", desk.about(0, 0), 0);
        desk.free(2);
        Checks.due("5: no route to it", Checks.route(desk, "b"), 0);
        Checks.due("5: route to others", Checks.route(desk, "a"), 1);
    }

    // Promise 6
    private static void route() {
        TopicDesk desk = new TopicDesk();
        Checks.bind(desk, "a.#", 0);
        Checks.bind(desk, "*.b", 15);
        Checks.bind(desk, "#.b", 15);
        Checks.bind(desk, "c", 7);
        Checks.due("6: bits", Checks.route(desk, "a.b"), 0x8001);
        Checks.due("6: one", Checks.route(desk, "b"), 0x8000);
        Checks.due("6: none", Checks.route(desk, "d"), 0);
        Checks.due("6: another", Checks.route(desk, "c"), 0x80);
        Checks.due("6: no topic", Checks.route(desk, "a.*"), ILLEGAL_ARGUMENT);
        Checks.due("6: the tape is empty then", Checks.route(desk, "c"), 0x80);
        Checks.due("6: and then", Checks.route(desk, ""), ILLEGAL_ARGUMENT);
    }

    private static void routeFits() {
        fits("#", "a.b.c.d.e.f", true);
        fits("*", "abcdef", true);
        fits("*", "a.b", false);
        fits("a.#", "a", true);
        fits("a.#", "ab", false);
        fits("a.#", "b.a", false);
        fits("#.a", "b.c.a", true);
        fits("#.a", "a.b", false);
        fits("a.#.b", "a.b", true);
        fits("a.#.b", "a.c.b.d.b", true);
        fits("a.#.b", "a", false);
        fits("#.*", "a", true);
        fits("#.*.*", "a", false);
        fits("#.*.#.*.#", "a.b", true);
        fits("#.a.#.a.#", "b.a.c", false);
        fits("#.a.#.a.#", "a.a", true);
        fits("#.#.#.#.#.#", "a", true);
        fits("*.*.*.*.*.*", "a.b.c.d.e.f", true);
        fits("*.*.*.*.*.*", "a.b.c.d.e", false);
        fits("abcdef", "abcdef", true);
        fits("abcdef", "abcdee", false);
        fits("abcdef", "bbcdef", false);
        fits("ab", "ba", false);
        fits("ab", "a.b", false);
        fits("a.b.#.c.d.#", "a.b.c.c.d", true);
    }

    private static void fits(String pattern, String topic, boolean due) {
        TopicDesk desk = Checks.deskOf(pattern);
        Checks.due("6: " + topic + " to " + pattern, Checks.route(desk, topic), due ? 1 : 0);
    }

    // Promise 7
    private static void keep() {
        TopicDesk desk = Checks.deskOf("#");
        Checks.due("7: first", Checks.keep(desk, "b", Integer.MIN_VALUE), 1);
        Checks.due("7: second", Checks.keep(desk, "a", Integer.MAX_VALUE), 2);
        Checks.due("7: value", Checks.kept(desk, 0, 1), Integer.MIN_VALUE);
        Checks.due("7: same again", Checks.keep(desk, "b", 5), 2);
        Checks.due("7: new value", Checks.kept(desk, 0, 1), 5);
        Checks.due("7: other value", Checks.kept(desk, 0, 0), Integer.MAX_VALUE);
        Checks.due("7: no topic", Checks.keep(desk, "#", 1), ILLEGAL_ARGUMENT);
        Checks.due("7: the tape is empty then", Checks.keep(desk, "c", 1), 3);
        Checks.due("7: and then", Checks.keep(desk, "", 1), ILLEGAL_ARGUMENT);
        Checks.due("7: kept", desk.about(0, 2), 3);
    }

    private static void keepFull() {
        TopicDesk desk = Checks.deskOf("#");
        for (int n = 0; n < 20; n++) {
            Checks.due("7: many", Checks.keep(desk, "t" + (char) ('t' - n), n), n + 1);
        }
        Checks.due("7: one more", Checks.keep(desk, "a", 99), ILLEGAL_STATE);
        Checks.due("7: fault of it", desk.fault(), -1);
        Checks.due("7: one more behind all", Checks.keep(desk, "z", 99), ILLEGAL_STATE);
        Checks.due("7: no topic when full", Checks.keep(desk, "a.", 99), ILLEGAL_ARGUMENT);
        Checks.due("7: nothing has changed", desk.about(0, 2), 20);
        for (int k = 0; k < 20; k++) {
            Checks.due("7: value in order", Checks.kept(desk, 0, k), 19 - k);
        }
        Checks.due("7: one that is kept", Checks.keep(desk, "ta", 100), 20);
        Checks.due("7: its value", Checks.kept(desk, 0, 0), 100);
        Checks.due("7: lose one", Checks.lose(desk, "tt"), true);
        Checks.due("7: then one more", Checks.keep(desk, "a", 99), 20);
        Checks.due("7: which is first", Checks.kept(desk, 0, 0), 99);
    }

    // Promise 8
    private static void lose() {
        TopicDesk desk = Checks.deskOf("#");
        Checks.keep(desk, "a", 1);
        Checks.keep(desk, "b", 2);
        Checks.keep(desk, "c", 3);
        Checks.due("8: not kept", Checks.lose(desk, "a.b"), false);
        Checks.due("8: kept", Checks.lose(desk, "b"), true);
        Checks.due("8: no more", Checks.lose(desk, "b"), false);
        Checks.due("8: first stays", Checks.kept(desk, 0, 0), 1);
        Checks.due("8: last stays", Checks.kept(desk, 0, 1), 3);
        Checks.due("8: two", desk.about(0, 2), 2);
        Checks.due("8: no topic", Checks.lose(desk, "a*"), ILLEGAL_ARGUMENT);
        Checks.due("8: the tape is empty then", Checks.lose(desk, "a"), true);
        Checks.due("8: and then", Checks.lose(desk, ""), ILLEGAL_ARGUMENT);
        Checks.due("8: last", Checks.lose(desk, "c"), true);
        Checks.due("8: nothing is kept", desk.about(0, 2), 0);
        Checks.due("8: keep again", Checks.keep(desk, "b", 4), 1);
        Checks.due("8: its value", Checks.kept(desk, 0, 0), 4);
    }

    // Promise 9
    private static void about() {
        TopicDesk desk = new TopicDesk();
        Checks.bind(desk, "a.*.#", 9);
        Checks.bind(desk, "x", 0);
        Checks.keep(desk, "a.b", 1);
        Checks.keep(desk, "a.b.c", 1);
        Checks.keep(desk, "a", 1);
        Checks.due("9: queue", desk.about(0, 0), 9);
        Checks.due("9: queue 0", desk.about(1, 0), 0);
        Checks.due("9: kept", desk.about(0, 2), 2);
        Checks.due("9: none kept", desk.about(1, 2), 0);
        Checks.due("9: signs", desk.about(0, 3), 5);
        Checks.due("9: what 4", desk.about(0, 4), -1);
        Checks.due("9: what -1", desk.about(0, -1), -1);
        Checks.due("9: what most", desk.about(0, Integer.MAX_VALUE), -1);
        for (int what = -1; what < 5; what++) {
            Checks.due("9: free", desk.about(2, what), -1);
            for (int i : NO_BINDINGS) {
                Checks.due("9: none such", desk.about(i, what), -1);
            }
        }
        desk.free(0);
        Checks.due("9: free now", desk.about(0, 3), -1);
    }

    private static void aboutRouted() {
        TopicDesk desk = Checks.deskOf("a.#", "b");
        Checks.due("9: none routed", desk.about(0, 1), 0);
        Checks.route(desk, "a");
        Checks.route(desk, "a.b");
        Checks.route(desk, "a.b");
        Checks.route(desk, "b");
        Checks.route(desk, "a.");
        Checks.keep(desk, "a.c", 1);
        Checks.lose(desk, "a.c");
        Checks.due("9: each route counts", desk.about(0, 1), 3);
        Checks.due("9: of the other", desk.about(1, 1), 1);
        desk.free(0);
        Checks.route(desk, "a");
        Checks.due("9: bound anew", Checks.bind(desk, "a.#", 0), 0);
        Checks.due("9: from then on", desk.about(0, 1), 0);
        Checks.route(desk, "a");
        Checks.due("9: one", desk.about(0, 1), 1);
        Checks.due("9: the other is the same", desk.about(1, 1), 1);
    }

    // Promise 10
    private static void kept() {
        TopicDesk desk = Checks.deskOf("a.#", "*");
        Checks.due("10: nothing kept", Checks.kept(desk, 0, 0), NO_SUCH);
        Checks.keep(desk, "b", 1);
        Checks.keep(desk, "a.c", 2);
        Checks.keep(desk, "a", 3);
        Checks.due("10: first", Checks.kept(desk, 0, 0), 3);
        Checks.due("10: second", Checks.kept(desk, 0, 1), 2);
        Checks.due("10: no third", Checks.kept(desk, 0, 2), NO_SUCH);
        Checks.due("10: -1", Checks.kept(desk, 0, -1), NO_SUCH);
        Checks.due("10: least", Checks.kept(desk, 0, Integer.MIN_VALUE), NO_SUCH);
        Checks.due("10: most", Checks.kept(desk, 0, Integer.MAX_VALUE), NO_SUCH);
        Checks.due("10: other first", Checks.kept(desk, 1, 0), 3);
        Checks.due("10: other second", Checks.kept(desk, 1, 1), 1);
        Checks.due("10: free", Checks.kept(desk, 2, 0), NO_SUCH);
        for (int i : NO_BINDINGS) {
            Checks.due("10: none such", Checks.kept(desk, i, 0), NO_SUCH);
        }
        desk.free(0);
        Checks.due("10: free now", Checks.kept(desk, 0, 0), NO_SUCH);
    }

    private static void keptOrder() {
        String[] inOrder = {"0", "0.a", "00", "0a", "9", "a", "a.0", "a.a", "a.a.a", "a.b", "a0", "a9.z",
            "aa", "ab", "ab.a", "b", "b.0", "z", "z.z", "zz"};
        for (int turn = 0; turn < inOrder.length; turn++) {
            TopicDesk desk = Checks.deskOf("#");
            for (int n = 0; n < inOrder.length; n++) {
                int which = (n * 7 + turn) % inOrder.length;
                Checks.keep(desk, inOrder[which], which);
            }
            for (int k = 0; k < inOrder.length; k++) {
                Checks.due("10: order, turn " + turn, Checks.kept(desk, 0, k), k);
            }
        }
    }

    // Promise 11
    private static void sign() {
        TopicDesk desk = Checks.deskOf("a0.*.#.z9");
        String pattern = "a0.*.#.z9";
        for (int at = 0; at < pattern.length(); at++) {
            Checks.due("11: sign " + at, desk.sign(0, at), (int) pattern.charAt(at));
        }
        Checks.due("11: behind", desk.sign(0, 9), -1);
        Checks.due("11: ahead", desk.sign(0, -1), -1);
        Checks.due("11: far behind", desk.sign(0, Integer.MAX_VALUE), -1);
        Checks.due("11: far ahead", desk.sign(0, Integer.MIN_VALUE), -1);
        Checks.due("11: free", desk.sign(1, 0), -1);
        for (int i : NO_BINDINGS) {
            Checks.due("11: none such", desk.sign(i, 0), -1);
        }
        desk.free(0);
        Checks.due("11: free now", desk.sign(0, 0), -1);
        Checks.bind(desk, "b", 1);
        Checks.due("11: bound anew", desk.sign(0, 0), (int) 'b');
        Checks.due("11: nothing of the old one", desk.sign(0, 1), -1);
    }

    // Promise 12
    private static void both() {
        bothOf("a.*", "*.b", 2);
        bothOf("a", "b", 0);
        bothOf("a", "a", 1);
        bothOf("#", "#", 1);
        bothOf("#.#", "#.#.#", 1);
        bothOf("#", "*.*.*.*.*.*", 6);
        bothOf("*", "*.*", 0);
        bothOf("a.#", "#.b", 2);
        bothOf("a.#", "#.a", 1);
        bothOf("#.a.#", "#.b.#", 2);
        bothOf("a.b.c.d.e.#", "#.v.w.x.y.z", 10);
        bothOf("a.b.a.b.a.#", "#.b.a.b.a.b", 6);
        bothOf("#.a.#.b.#.c", "#.d.#.e.#.f", 0);
        bothOf("#.a.#.b.#.#", "#.d.#.e.#.f", 5);
        bothOf("a.#.b", "*", 0);
        bothOf("ab", "ba", 0);
        TopicDesk desk = Checks.deskOf("a.*", "#");
        Checks.due("12: with itself", desk.both(0, 0), 2);
        Checks.due("12: hash with itself", desk.both(1, 1), 1);
        Checks.due("12: free", desk.both(0, 2), -1);
        Checks.due("12: free first", desk.both(2, 0), -1);
        for (int i : NO_BINDINGS) {
            Checks.due("12: none such", desk.both(0, i), -1);
            Checks.due("12: none such first", desk.both(i, 0), -1);
        }
    }

    private static void bothOf(String first, String second, int due) {
        TopicDesk desk = Checks.deskOf(first, second);
        Checks.due("12: both " + first + " " + second, desk.both(0, 1), due);
        Checks.due("12: both " + second + " " + first, desk.both(1, 0), due);
    }

    // Promise 13
    private static void only() {
        onlyOf("a.*", "*.b", 2, 2);
        onlyOf("a", "b", 1, 1);
        onlyOf("a", "a", 0, 0);
        onlyOf("#", "*", 2, 0);
        onlyOf("#", "*.#", 0, 0);
        onlyOf("#.*", "*.#", 0, 0);
        onlyOf("#.#", "#", 0, 0);
        onlyOf("#.*.#", "#.a.#", 1, 0);
        onlyOf("a.#", "a.*.#", 1, 0);
        onlyOf("#", "*.*.*.*.*.#", 1, 0);
        onlyOf("*.*.*.*.*.#", "*.*.*.*.*.*", 5, 0);
        onlyOf("#.a.#.b.#", "#.b.#.a.#", 2, 2);
        onlyOf("#.a.b.#", "#.a.#.b.#", 0, 3);
        onlyOf("#.a", "#.a.#.a", 1, 0);
        onlyOf("#.*.*.*.*.*", "*.*.*.*.*.*", 5, 0);
        onlyOf("*.*.*.*.*.*", "#.*.*.*.*.*", 0, 5);
        onlyOf("a", "#", 0, 1);
        TopicDesk desk = Checks.deskOf("a.*", "#");
        Checks.due("13: of itself", desk.only(0, 0), 0);
        Checks.due("13: free", desk.only(0, 2), -1);
        Checks.due("13: free first", desk.only(2, 0), -1);
        for (int i : NO_BINDINGS) {
            Checks.due("13: none such", desk.only(0, i), -1);
            Checks.due("13: none such first", desk.only(i, 0), -1);
        }
        TopicDesk longer = Checks.deskOf("*.*.*.*.*.#", "*.*.*.*.*", "*.*.*.*.*.*");
        Checks.due("13: six", longer.only(0, 1), 6);
        TopicDesk beyond = Checks.deskOf("a.b.c.d.e.#", "a.b.c.d.e.*", "#.e");
        Checks.due("13: five", beyond.only(0, 1), 5);
        Checks.due("13: seven is not needed", beyond.only(0, 2), 6);
    }

    private static void onlyOf(String first, String second, int due, int turned) {
        TopicDesk desk = Checks.deskOf(first, second);
        Checks.due("13: only " + first + " " + second, desk.only(0, 1), due);
        Checks.due("13: only " + second + " " + first, desk.only(1, 0), turned);
    }

    // Promise 14
    private static void spare() {
        spareOf(0);
        spareOf(0, "a");
        spareOf(0, "a", "b");
        spareOf(1, "a", "*");
        spareOf(2, "*", "a");
        spareOf(2, "a", "a");
        spareOf(6, "a", "a", "a");
        spareOf(2, "#", "*.#");
        spareOf(2, "*.#", "#");
        spareOf(14, "*.#", "a", "#", "b.#");
        spareOf(0, "a.*", "*.b");
        spareOf(7, "a", "b", "a.b", "#");
        // One pattern alone must take each row: that two do so together is not enough.
        spareOf(6, "#", "*", "*.*.#");
    }

    private static void spareOf(int due, String... patterns) {
        TopicDesk desk = Checks.deskOf(patterns);
        Checks.due("14: spare of " + String.join(" ", patterns), desk.spare(0), due);
    }

    private static void spareAmongQueues() {
        TopicDesk desk = new TopicDesk();
        Checks.bind(desk, "a", 3);
        Checks.bind(desk, "#", 4);
        Checks.bind(desk, "a", 4);
        Checks.bind(desk, "a", 3);
        Checks.due("14: queue 3", desk.spare(3), 8);
        Checks.due("14: queue 4", desk.spare(4), 4);
        Checks.due("14: queue 5", desk.spare(5), 0);
        desk.free(0);
        Checks.due("14: no more", desk.spare(3), 0);
        Checks.due("14: queue -1", desk.spare(-1), 0);
        Checks.due("14: queue 16", desk.spare(16), 0);
        Checks.due("14: queue least", desk.spare(Integer.MIN_VALUE), 0);
        Checks.due("14: queue most", desk.spare(Integer.MAX_VALUE), 0);
        TopicDesk full = new TopicDesk();
        for (int i = 0; i < 24; i++) {
            Checks.bind(full, "#.a", 15);
        }
        Checks.due("14: all but the first", full.spare(15), 0xFFFFFE);
    }
}
