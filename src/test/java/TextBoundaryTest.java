import java.util.function.Function;

/**
 * Boundaries that the document names for the tape and for texts: the Terms on WORDS, TOPICS,
 * PATTERNS and FAULTS, and promises 1, 2 and 4. What a label begins with is the promise's number.
 */
public final class TextBoundaryTest {
    private static final String ILLEGAL_ARGUMENT = "IllegalArgumentException";
    private static final String ILLEGAL_STATE = "IllegalStateException";
    private static final int FIRST_SIGN = 33;
    private static final int LAST_SIGN = 126;
    private static final int MOST_SIGNS = 60;

    private TextBoundaryTest() {
    }

    public static void main(String[] args) {
        promise1NoBindings();
        promise1NothingKept();
        promise1NothingTyped();
        promise2TakesOneToEightBytes();
        promise2TakesBytesFrom33To126();
        promise2LooksAtTheLowestBytesAlone();
        promise2PutsTheHighestByteFirst();
        promise2HoldsSixtySigns();
        promise2RefusedChangesNothing();
        promise4NoTapeYet();
        promise4WordsOfOneToSixSigns();
        promise4TextsOfOneToSixParts();
        promise4EachSignInEachPlace();
        promise4EndsTooEarly();
        promise4FirstOfSeveralFaults();
        promise4TapeWithNoSuchQueue();
        promise4LatestTapeOfEachCall();
        promise4TapeOfACallRefusedByTheState();
        promise4ChangesNothing();
        Checks.finish();
    }

    // Promise 1: "No BINDINGS"
    private static void promise1NoBindings() {
        for (int i = -1; i <= Desks.BINDINGS; i++) {
            TopicDesk desk = new TopicDesk();
            for (int what = 0; what < 4; what++) {
                Checks.due("1: about " + i, desk.about(i, what), -1);
            }
            Checks.due("1: sign " + i, desk.sign(i, 0), -1);
            Checks.due("1: kept " + i, Checks.kept(desk, i, 0), "NoSuchElementException");
            Checks.due("1: both " + i, desk.both(i, i), -1);
            Checks.due("1: only " + i, desk.only(i, i), -1);
            Checks.due("1: free " + i, desk.free(i), false);
        }
        TopicDesk desk = new TopicDesk();
        for (int queue = -1; queue <= Desks.QUEUES; queue++) {
            Checks.due("1: spare " + queue, desk.spare(queue), 0);
        }
        Checks.due("1: goes nowhere", Checks.route(desk, "a"), 0);
        Checks.due("1: the first is 0", Checks.bind(desk, "a", 0), 0);
    }

    // Promise 1: "nothing KEPT"
    private static void promise1NothingKept() {
        TopicDesk desk = Checks.deskOf("#");
        Checks.due("1: none fit #", desk.about(0, 2), 0);
        Checks.due("1: no 0th", Checks.kept(desk, 0, 0), "NoSuchElementException");
        Checks.due("1: lose", Checks.lose(desk, "a"), false);
        Checks.due("1: the first kept", Checks.keep(desk, "a", 0), 1);
        SameState.due("1: objects have nothing in common", TopicDesk::new, () -> {
            Desks.typed(Desks.full(), "abc");
            return new TopicDesk();
        });
    }

    private static void promise1NothingTyped() {
        Checks.due("1: bind", Checks.answer(() -> new TopicDesk().bind(0)), ILLEGAL_ARGUMENT);
        Checks.due("1: route", Checks.answer(() -> new TopicDesk().route()), ILLEGAL_ARGUMENT);
        Checks.due("1: keep", Checks.answer(() -> new TopicDesk().keep(0)), ILLEGAL_ARGUMENT);
        Checks.due("1: lose", Checks.answer(() -> new TopicDesk().lose()), ILLEGAL_ARGUMENT);
        Checks.due("1: NONE", TopicDesk.NONE, -1);
    }

    // Promise 2: "The n (1 .. 8) lowest bytes", "false .. for another n"
    private static void promise2TakesOneToEightBytes() {
        for (int n = -9; n <= 72; n++) {
            TopicDesk desk = new TopicDesk();
            boolean due = n >= 1 && n <= 8;
            Checks.due("2: n " + n, desk.type(Checks.packed("a.b.c.d."), n), due);
        }
        for (int n : Desks.FAR_OFF) {
            Checks.due("2: n " + n, new TopicDesk().type(Checks.packed("a.b.c.d."), n), false);
        }
    }

    // Promise 2: "a byte that is not 33 .. 126"
    private static void promise2TakesBytesFrom33To126() {
        for (int n = 1; n <= 8; n++) {
            for (int place = 0; place < n; place++) {
                for (int sign = 0; sign < 256; sign++) {
                    long others = Checks.packed("aaaaaaaa") & ~(255L << 8 * place);
                    boolean due = sign >= FIRST_SIGN && sign <= LAST_SIGN;
                    Checks.due("2: byte " + sign + " at " + place + " of " + n,
                            new TopicDesk().type(others | (long) sign << 8 * place, n), due);
                }
            }
        }
    }

    private static void promise2LooksAtTheLowestBytesAlone() {
        for (int n = 1; n <= 8; n++) {
            for (long above : new long[] {0L, -1L, 0x2020202020202020L, 0x7F7F7F7F7F7F7F7FL}) {
                TopicDesk desk = new TopicDesk();
                long higher = n == 8 ? 0L : above << 8 * n;
                String due = "a.b.c.de".substring(8 - n);
                Checks.due("2: what is above " + n, desk.type(higher | Checks.packed(due), n), true);
                boolean pattern = due.charAt(0) != '.';
                Checks.due("2: and then", Checks.answer(() -> desk.bind(0)), pattern ? (Object) 0 : ILLEGAL_ARGUMENT);
                Checks.due("2: signs", signs(desk), pattern ? due : "");
            }
        }
    }

    // Promise 2: "the highest first"
    private static void promise2PutsTheHighestByteFirst() {
        TopicDesk desk = new TopicDesk();
        Checks.due("2: eight", desk.type(0x6162632E646566L << 8 | 0x2E, 8), true);
        Checks.due("2: one", desk.type(0x2A, 1), true);
        Checks.due("2: two", desk.type(0x2E23, 2), true);
        Checks.due("2: bind", Checks.answer(() -> desk.bind(0)), 0);
        Checks.due("2: signs", signs(desk), "abc.def.*.#");
    }

    // Promise 2: "if it would have more than 60"
    private static void promise2HoldsSixtySigns() {
        for (int length = 0; length <= MOST_SIGNS; length++) {
            for (int n = 1; n <= 8; n++) {
                TopicDesk desk = Desks.typed(new TopicDesk(), "!".repeat(length));
                boolean due = length + n <= MOST_SIGNS;
                Checks.due("2: " + length + " and " + n, desk.type(Checks.packed("!!!!!!!!"), n), due);
            }
        }
        TopicDesk desk = Desks.typed(new TopicDesk(), "!".repeat(MOST_SIGNS));
        Checks.due("2: full", desk.type('!', 1), false);
        Checks.due("2: taken", Checks.answer(desk::route), ILLEGAL_ARGUMENT);
        Desks.typed(desk, "!".repeat(MOST_SIGNS));
        Checks.due("2: full again", desk.type('!', 1), false);
        TopicDesk longest = new TopicDesk();
        for (int at = 0; at < Desks.LONGEST.length(); at++) {
            Checks.due("2: one by one", longest.type(Desks.LONGEST.charAt(at), 1), true);
        }
        Checks.due("2: 41 signs", Checks.answer(() -> longest.bind(0)), 0);
        Checks.due("2: all of them", signs(longest), Desks.LONGEST);
    }

    // Promise 2: "false, changing nothing"
    private static void promise2RefusedChangesNothing() {
        for (String tape : new String[] {"", "ab.c", "a.b.", "*.#", Desks.LONGEST}) {
            refusedOn(tape, "n 0", desk -> desk.type('a', 0));
            refusedOn(tape, "n 9", desk -> desk.type(Checks.packed("aaaaaaaa"), 9));
            refusedOn(tape, "n -1", desk -> desk.type('a', -1));
            refusedOn(tape, "lowest byte 32", desk -> desk.type(0x6161616161616120L, 8));
            refusedOn(tape, "highest byte 127", desk -> desk.type(0x7F61616161616161L, 8));
        }
        String most = Desks.LONGEST + "!".repeat(MOST_SIGNS - Desks.LONGEST.length());
        for (int n = 1; n <= 8; n++) {
            int count = n;
            refusedOn(most, "60 and " + n, desk -> desk.type(Checks.packed("aaaaaaaa"), count));
            refusedOn(most.substring(n - 1), "61 with " + n, desk -> desk.type(Checks.packed("aaaaaaaa"), count));
        }
    }

    private static void refusedOn(String tape, String what, Function<TopicDesk, Object> call) {
        SameState.due("2: " + what + " on " + tape, () -> {
            TopicDesk desk = Desks.typed(Desks.some(), tape);
            Checks.due("2: " + what, call.apply(desk), false);
            return desk;
        }, () -> Desks.typed(Desks.some(), tape));
    }

    // Promise 4: "or there was no tape yet"
    private static void promise4NoTapeYet() {
        TopicDesk desk = new TopicDesk();
        Checks.due("4: new", desk.fault(), -1);
        desk.type(Checks.packed("!!"), 2);
        Checks.due("4: typed alone", desk.fault(), -1);
        desk.free(0);
        desk.spare(0);
        Checks.due("4: other calls", desk.fault(), -1);
    }

    // Terms: "WORDS have 1 to 6 signs", "the seventh sign of a WORD, too"
    private static void promise4WordsOfOneToSixSigns() {
        for (int words = 0; words < 6; words++) {
            String ahead = "a.".repeat(words);
            for (int signs = 0; signs <= 9; signs++) {
                int due = signs == 0 ? ahead.length() : signs <= 6 ? -1 : ahead.length() + 6;
                faultOfBoth(ahead + "z".repeat(signs), due);
                if (words < 5) {
                    faultOfBoth(ahead + "9".repeat(signs) + ".a", due);
                }
            }
        }
        faultOfBoth("abcdef.ghijkl.mnopqr.stuvwx.yz0123.4567890", 41);
        faultOfBoth(Desks.LONGEST, -1);
    }

    // Terms: "1 to 6 WORDS", "1 to 6 parts", "the . ahead of a seventh WORD or part"
    private static void promise4TextsOfOneToSixParts() {
        for (String part : new String[] {"a", "z9", "abcdef", "*", "#"}) {
            boolean wild = part.equals("*") || part.equals("#");
            for (int count = 1; count <= 8; count++) {
                String text = Desks.parts(part, count);
                int due = count <= 6 ? -1 : Desks.parts(part, 6).length();
                faultOfPattern(text, due);
                faultOfTopic(text, wild ? 0 : due);
            }
            faultOfPattern(Desks.parts(part, 6) + ".", Desks.parts(part, 6).length());
            faultOfPattern(Desks.parts(part, 6) + "..", Desks.parts(part, 6).length());
        }
    }

    // Terms: "the place of the first sign that can't stand there"
    private static void promise4EachSignInEachPlace() {
        for (char sign = FIRST_SIGN; sign <= LAST_SIGN; sign++) {
            boolean ofWord = "abcdefghijklmnopqrstuvwxyz0123456789".indexOf(sign) >= 0;
            boolean wild = sign == '*' || sign == '#';
            for (String ahead : new String[] {"", "a.", "abcdef.", "a.b.c.d.e."}) {
                faultOfPattern(ahead + sign, ofWord || wild ? -1 : ahead.length());
                faultOfTopic(ahead + sign, ofWord ? -1 : ahead.length());
            }
            for (String ahead : new String[] {"*.", "#."}) {
                faultOfPattern(ahead + sign, ofWord || wild ? -1 : ahead.length());
                faultOfTopic(ahead + sign, 0);
            }
            for (String ahead : new String[] {"a", "0", "abcde", "a.b", "a.b.c.d.e"}) {
                faultOfBoth(ahead + sign, ofWord ? -1 : sign == '.' ? ahead.length() + 1 : ahead.length());
            }
            faultOfBoth("a.b.c.d.e.f" + sign, ofWord ? -1 : 11);
            faultOfBoth("abcdef" + sign, sign == '.' ? 7 : 6);
            faultOfBoth("a.b.c.d.e.abcdef" + sign, 16);
            for (String ahead : new String[] {"*", "#", "a.*", "a.#", "a.b.c.d.*"}) {
                faultOfPattern(ahead + sign, sign == '.' ? ahead.length() + 1 : ahead.length());
            }
            faultOfPattern("a.b.c.d.e.*" + sign, 11);
            faultOfPattern("a.b.c.d.e.#" + sign, 11);
        }
    }

    // Terms: "or its length, if it ends too early"
    private static void promise4EndsTooEarly() {
        faultOfBoth("", 0);
        for (int words = 1; words <= 5; words++) {
            faultOfBoth("a.".repeat(words), 2 * words);
            faultOfBoth("abcdef.".repeat(words), 7 * words);
            faultOfPattern("*.".repeat(words), 2 * words);
            faultOfPattern("#.".repeat(words), 2 * words);
        }
        // The sixth . stands ahead of a seventh part: it is the fault, not the end behind it.
        faultOfBoth("a.".repeat(6), 11);
        faultOfPattern("*.".repeat(6), 11);
    }

    private static void promise4FirstOfSeveralFaults() {
        faultOfBoth("a!!", 1);
        faultOfBoth("!a.b.", 0);
        faultOfBoth("a..b..c", 2);
        faultOfBoth("abcdefgh.ABC", 6);
        faultOfBoth("a.b.c.d.e.f.!", 11);
        faultOfTopic("a.*.!", 2);
        faultOfPattern("a.*.!", 4);
        faultOfBoth(Desks.LONGEST + "!".repeat(19), 41);
        faultOfBoth("!".repeat(MOST_SIGNS), 0);
    }

    // Promise 4: "one with no such QUEUE is looked at, too"
    private static void promise4TapeWithNoSuchQueue() {
        for (int queue : new int[] {-1, 16, Integer.MIN_VALUE, Integer.MAX_VALUE}) {
            TopicDesk desk = new TopicDesk();
            Checks.due("4: refused", Checks.bind(desk, "ab.c!", queue), ILLEGAL_ARGUMENT);
            Checks.due("4: looked at", desk.fault(), 4);
            Checks.due("4: refused, good", Checks.bind(desk, "ab.*", queue), ILLEGAL_ARGUMENT);
            Checks.due("4: good", desk.fault(), -1);
            Checks.due("4: refused, empty", Checks.bind(desk, "", queue), ILLEGAL_ARGUMENT);
            Checks.due("4: empty", desk.fault(), 0);
        }
    }

    // Promise 4: "the latest tape that was to be a PATTERN or TOPIC"
    private static void promise4LatestTapeOfEachCall() {
        latestOf("bind", desk -> desk.bind(0));
        latestOf("route", TopicDesk::route);
        latestOf("keep", desk -> desk.keep(0));
        latestOf("lose", TopicDesk::lose);
    }

    private static void latestOf(String name, Function<TopicDesk, Object> call) {
        TopicDesk desk = new TopicDesk();
        taken(desk, "abc.d!", call);
        Checks.due("4: " + name + " of a fault", desk.fault(), 5);
        Checks.due("4: told again", desk.fault(), 5);
        taken(desk, "a", call);
        Checks.due("4: " + name + " of none", desk.fault(), -1);
        taken(desk, "a.", call);
        Checks.due("4: " + name + " of an end", desk.fault(), 2);
        desk.type(Checks.packed("a"), 1);
        desk.type(Checks.packed("!"), 9);
        Checks.due("4: typing is no look", desk.fault(), 2);
        desk.about(0, 0);
        Checks.kept(desk, 0, 99);
        desk.sign(0, 0);
        desk.both(0, 0);
        desk.only(0, 0);
        desk.spare(0);
        desk.free(0);
        Checks.due("4: nor are the other calls", desk.fault(), 2);
        taken(desk, "", call);
        Checks.due("4: what was typed ahead is looked at", desk.fault(), -1);
        taken(desk, "", call);
        Checks.due("4: the empty tape behind it, too", desk.fault(), 0);
    }

    private static void promise4TapeOfACallRefusedByTheState() {
        TopicDesk desk = Desks.full();
        Checks.route(desk, "a.");
        Checks.due("4: before", desk.fault(), 2);
        Checks.due("4: bind", Checks.bind(desk, "a", 0), ILLEGAL_STATE);
        Checks.due("4: none of bind", desk.fault(), -1);
        Checks.route(desk, "a.");
        Checks.due("4: keep", Checks.keep(desk, "a", 0), ILLEGAL_STATE);
        Checks.due("4: none of keep", desk.fault(), -1);
        Checks.due("4: bad bind", Checks.bind(desk, "a..", 0), ILLEGAL_ARGUMENT);
        Checks.due("4: of bad bind", desk.fault(), 2);
        Checks.due("4: bad keep", Checks.keep(desk, "a.b.", 0), ILLEGAL_ARGUMENT);
        Checks.due("4: of bad keep", desk.fault(), 4);
    }

    private static void promise4ChangesNothing() {
        SameState.due("4: fault()", () -> {
            TopicDesk desk = Desks.typed(Desks.some(), "a.b");
            desk.fault();
            return desk;
        }, () -> Desks.typed(Desks.some(), "a.b"));
    }

    private static Object taken(TopicDesk desk, String text, Function<TopicDesk, Object> call) {
        Checks.type(desk, text);
        return Checks.answer(() -> call.apply(desk));
    }

    private static void faultOfBoth(String text, int due) {
        faultOfPattern(text, due);
        faultOfTopic(text, due);
    }

    private static void faultOfPattern(String text, int due) {
        TopicDesk desk = new TopicDesk();
        Checks.due("4: bind " + text, Checks.bind(desk, text, 0), due == -1 ? (Object) 0 : ILLEGAL_ARGUMENT);
        Checks.due("4: fault of " + text, desk.fault(), due);
        Checks.due("4: its signs", signs(desk), due == -1 ? text : "");
    }

    private static void faultOfTopic(String text, int due) {
        Object refused = ILLEGAL_ARGUMENT;
        faultOfTopic("route", text, TopicDesk::route, due, due == -1 ? 0 : refused);
        faultOfTopic("keep", text, desk -> desk.keep(0), due, due == -1 ? 1 : refused);
        faultOfTopic("lose", text, TopicDesk::lose, due, due == -1 ? false : refused);
    }

    private static void faultOfTopic(String name, String text, Function<TopicDesk, Object> call, int due,
            Object answer) {
        TopicDesk desk = new TopicDesk();
        Checks.due("4: " + name + " " + text, taken(desk, text, call), answer);
        Checks.due("4: fault of " + text, desk.fault(), due);
    }

    private static String signs(TopicDesk desk) {
        StringBuilder signs = new StringBuilder();
        for (int at = 0; at < MOST_SIGNS && desk.sign(0, at) != -1; at++) {
            signs.append((char) desk.sign(0, at));
        }
        return signs.toString();
    }
}
