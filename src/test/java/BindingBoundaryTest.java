/**
 * Boundaries that the document names for bindings and routes: promises 3, 5, 6, 9 and 11. What a
 * label begins with is the promise's number.
 */
public final class BindingBoundaryTest {
    private static final String ILLEGAL_ARGUMENT = "IllegalArgumentException";
    private static final String ILLEGAL_STATE = "IllegalStateException";
    private static final int LAST_CALL = 512;
    private static final String[] NO_PATTERNS = {"", ".", "a.", ".a", "a..b", "A", "abcdefg", "*a", "##",
        "a.b.c.d.e.f.g", "#.#.#.#.#.#.#"};

    private BindingBoundaryTest() {
    }

    public static void main(String[] args) {
        promise3TakesQueues0To15();
        promise3NoSuchQueueChangesNothing();
        promise3NoPatternChangesNothing();
        promise3BindsTwentyFour();
        promise3NoneFreeChangesNothing();
        promise3WhichExceptionComesFirst();
        promise3TakesTheLeastFree();
        promise3EmptiesTheTapeInAnyCase();
        promise3BindsAnewWithNothingOfTheOld();
        promise5FreesTwentyFour();
        promise5NoneSuchOrFreeChangesNothing();
        promise5FreesNothingElse();
        promise6QueuesAsBits();
        promise6OneBitForSeveralBindings();
        promise6HashTakesNoneToSixWords();
        promise6SeveralHashesTakeNoWord();
        promise6StarTakesOneWord();
        promise6WordIsThatOne();
        promise6EmptiesTheTapeInAnyCase();
        promise6NoTopicChangesNothing();
        promise9TakesWhat0To3();
        promise9NoneSuchOrFree();
        promise9CountsRoutedSinceBound();
        promise9CountsUpToTheLastCall();
        promise9CountsKeptFromNoneToTwenty();
        promise9CountsSignsFromOneToFortyOne();
        promise9ChangesNothing();
        promise11TakesEachPlaceOfThePattern();
        promise11NoneSuch();
        Checks.finish();
    }

    // Promise 3: "there is no such QUEUE"
    private static void promise3TakesQueues0To15() {
        for (int queue = -3; queue <= 40; queue++) {
            TopicDesk desk = new TopicDesk();
            boolean is = queue >= 0 && queue <= 15;
            Checks.due("3: queue " + queue, Checks.bind(desk, "a", queue), is ? (Object) 0 : ILLEGAL_ARGUMENT);
            Checks.due("3: bound to it", desk.about(0, 0), is ? queue : -1);
            Checks.due("3: routed to it", Checks.route(desk, "a"), is ? 1 << queue : 0);
        }
        for (int queue : Desks.FAR_OFF) {
            Checks.due("3: queue " + queue, Checks.bind(new TopicDesk(), "a", queue), ILLEGAL_ARGUMENT);
        }
    }

    private static void promise3NoSuchQueueChangesNothing() {
        for (int queue : new int[] {-1, 16, Integer.MIN_VALUE, Integer.MAX_VALUE}) {
            SameState.refused("3: queue " + queue, Desks::some, "a.*", desk -> desk.bind(queue), ILLEGAL_ARGUMENT, -1);
        }
    }

    // Promise 3: "or it is none"
    private static void promise3NoPatternChangesNothing() {
        int[] faults = {0, 0, 2, 0, 2, 0, 6, 1, 1, 11, 11};
        for (int n = 0; n < NO_PATTERNS.length; n++) {
            SameState.refused("3: no pattern " + NO_PATTERNS[n], Desks::some, NO_PATTERNS[n], desk -> desk.bind(0),
                    ILLEGAL_ARGUMENT, faults[n]);
        }
    }

    // Terms: "BINDINGS 0 .. 23"; promise 3: "IllegalStateException: none is free"
    private static void promise3BindsTwentyFour() {
        TopicDesk desk = new TopicDesk();
        for (int i = 0; i < 24; i++) {
            Checks.due("3: number " + i, Checks.bind(desk, Desks.letter(i), i % 16), i);
            Checks.due("3: bound", desk.about(i, 0), i % 16);
        }
        for (int queue = 0; queue < 16; queue++) {
            Checks.due("3: none is free", Checks.bind(desk, "a", queue), ILLEGAL_STATE);
        }
        for (int i = 0; i < 24; i++) {
            Checks.due("3: still bound", desk.sign(i, 0), 'a' + i);
        }
        Checks.due("3: free the last", desk.free(23), true);
        Checks.due("3: one is free", Checks.bind(desk, "a", 0), 23);
        Checks.due("3: none again", Checks.bind(desk, "a", 0), ILLEGAL_STATE);
        Checks.due("3: free the first", desk.free(0), true);
        Checks.due("3: one is free again", Checks.bind(desk, "b", 0), 0);
    }

    private static void promise3NoneFreeChangesNothing() {
        SameState.refused("3: none free", Desks::full, "a.*", desk -> desk.bind(0), ILLEGAL_STATE, -1);
        SameState.refused("3: none free, as one bound", Desks::full, "#", desk -> desk.bind(0), ILLEGAL_STATE, -1);
    }

    private static void promise3WhichExceptionComesFirst() {
        SameState.refused("3: no queue, none free", Desks::full, "a", desk -> desk.bind(16), ILLEGAL_ARGUMENT, -1);
        SameState.refused("3: none below, none free", Desks::full, "a", desk -> desk.bind(-1), ILLEGAL_ARGUMENT, -1);
        SameState.refused("3: no pattern, none free", Desks::full, "a.", desk -> desk.bind(0), ILLEGAL_ARGUMENT, 2);
        SameState.refused("3: no tape, none free", Desks::full, "", desk -> desk.bind(0), ILLEGAL_ARGUMENT, 0);
    }

    // Promise 3: "the least free BINDING"
    private static void promise3TakesTheLeastFree() {
        for (int hole = 0; hole < 24; hole++) {
            TopicDesk desk = Desks.full();
            Checks.due("3: free", desk.free(hole), true);
            Checks.due("3: the only one", Checks.bind(desk, "b.c", 15), hole);
        }
        TopicDesk desk = Desks.full();
        int[] freed = {12, 23, 0, 22, 1};
        int[] due = {0, 1, 12, 22, 23};
        for (int i : freed) {
            desk.free(i);
        }
        for (int i : due) {
            Checks.due("3: least", Checks.bind(desk, "b.c", 15), i);
        }
        Checks.due("3: none", Checks.bind(desk, "b.c", 15), ILLEGAL_STATE);
    }

    // Promise 3: "which is empty then in any case"
    private static void promise3EmptiesTheTapeInAnyCase() {
        SameState.tapeIsEmptyBehind("3: bound", new TopicDesk(), "a.b", desk -> desk.bind(0));
        SameState.tapeIsEmptyBehind("3: no queue", new TopicDesk(), "a.b", desk -> desk.bind(16));
        SameState.tapeIsEmptyBehind("3: no pattern", new TopicDesk(), "a.b!", desk -> desk.bind(0));
        SameState.tapeIsEmptyBehind("3: full tape", new TopicDesk(), "!".repeat(60), desk -> desk.bind(0));
        SameState.tapeIsEmptyBehind("3: none free", Desks.full(), "a.b", desk -> desk.bind(0));
    }

    private static void promise3BindsAnewWithNothingOfTheOld() {
        SameState.dueButFault("3: bound anew", () -> {
            TopicDesk desk = new TopicDesk();
            Checks.bind(desk, Desks.LONGEST, 15);
            Checks.route(desk, Desks.LONGEST);
            desk.free(0);
            Checks.bind(desk, "*", 2);
            return desk;
        }, () -> {
            TopicDesk desk = new TopicDesk();
            Checks.bind(desk, "*", 2);
            return desk;
        });
    }

    // Promise 5: "A BINDING is free: true"
    private static void promise5FreesTwentyFour() {
        for (int i = -2; i <= 66; i++) {
            TopicDesk desk = Desks.full();
            boolean is = i >= 0 && i < 24;
            Checks.due("5: free " + i, desk.free(i), is);
            Checks.due("5: again " + i, desk.free(i), false);
            Checks.due("5: gone " + i, desk.about(i, 0), -1);
            Checks.due("5: sign " + i, desk.sign(i, 0), -1);
            Checks.due("5: kept " + i, Checks.kept(desk, i, 0), "NoSuchElementException");
            Checks.due("5: both " + i, desk.both(i, i), -1);
        }
        TopicDesk desk = Desks.full();
        for (int i = 23; i >= 0; i--) {
            Checks.due("5: all of them", desk.free(i), true);
        }
        Checks.due("5: none is left", Checks.route(desk, "a"), 0);
        Checks.due("5: the least again", Checks.bind(desk, "#", 0), 0);
        Checks.due("5: what is kept stays", desk.about(0, 2), 20);
    }

    // Promise 5: "false if it is, or there is none such"
    private static void promise5NoneSuchOrFreeChangesNothing() {
        for (int i : new int[] {-1, 1, 3, 23, 24, 25, 32, 64, Integer.MIN_VALUE, Integer.MAX_VALUE}) {
            SameState.unchanged("5: free " + i, desk -> desk.free(i), false);
        }
        for (int i : Desks.FAR_OFF) {
            Checks.due("5: of a full desk " + i, Desks.full().free(i), false);
        }
        for (int i = 0; i < 24; i++) {
            Checks.due("5: of a new desk " + i, new TopicDesk().free(i), false);
        }
    }

    private static void promise5FreesNothingElse() {
        SameState.due("5: bound and freed", () -> {
            TopicDesk desk = Desks.some();
            Checks.due("5: bind", Checks.bind(desk, "a.#", 3), 1);
            Checks.route(desk, "a.");
            desk.free(1);
            return desk;
        }, Desks::some);
        SameState.due("5: the tape stays", () -> {
            TopicDesk desk = Desks.typed(Desks.some(), "a.b");
            desk.free(2);
            return desk;
        }, () -> {
            TopicDesk desk = Desks.some();
            desk.free(2);
            return Desks.typed(desk, "a.b");
        });
    }

    // Terms: "a QUEUE 0 .. 15"; promise 6: "as bits"
    private static void promise6QueuesAsBits() {
        TopicDesk all = new TopicDesk();
        for (int queue = 0; queue < 16; queue++) {
            Checks.bind(all, "a", queue);
            Checks.due("6: up to " + queue, Checks.route(all, "a"), (2 << queue) - 1);
            TopicDesk one = new TopicDesk();
            Checks.bind(one, "a", queue);
            Checks.due("6: only " + queue, Checks.route(one, "a"), 1 << queue);
            Checks.due("6: none", Checks.route(one, "b"), 0);
        }
        Checks.due("6: none of all", Checks.route(all, "b"), 0);
        TopicDesk last = Desks.full();
        Checks.due("6: free 23", last.free(23), true);
        Checks.due("6: bind 23", Checks.bind(last, "zz.zz.zz", 14), 23);
        // The # of bindings 0, 3 .. 21 go to the queues 0, 2, 3, 5, 6, 9, 12 and 15.
        Checks.due("6: binding 23 is looked at", Checks.route(last, "zz.zz.zz"), 0x926D | 1 << 14);
    }

    private static void promise6OneBitForSeveralBindings() {
        TopicDesk desk = new TopicDesk();
        for (int i = 0; i < 24; i++) {
            Checks.bind(desk, i % 2 == 0 ? "a" : "#", 15);
        }
        Checks.due("6: one bit", Checks.route(desk, "a"), 1 << 15);
        Checks.due("6: by half of them", Checks.route(desk, "b"), 1 << 15);
        Checks.due("6: all have counted", desk.about(23, 1), 2);
        Checks.due("6: those that it fits", desk.about(22, 1), 1);
    }

    // Terms: "a # any number of any WORDS (none, too)"
    private static void promise6HashTakesNoneToSixWords() {
        for (int words = 1; words <= 6; words++) {
            String topic = Desks.parts("abcdef", words);
            fits("#", topic, true);
            fits("#.#.#.#.#.#", topic, true);
            fits("abcdef.#", topic, true);
            fits("#.abcdef", topic, true);
            fits("#.abcdef.#", topic, true);
            fits("#.b", topic, false);
            fits("b.#", topic, false);
            fits("abcdef.#.abcdef", topic, words >= 2);
            for (int parts = 1; parts <= 5; parts++) {
                fits(Desks.parts("*", parts) + ".#", topic, words >= parts);
                fits("#." + Desks.parts("*", parts), topic, words >= parts);
                fits(Desks.parts("abcdef", parts) + ".#", topic, words >= parts);
            }
        }
    }

    private static void promise6SeveralHashesTakeNoWord() {
        for (int hashes = 1; hashes <= 5; hashes++) {
            String many = Desks.parts("#", hashes);
            fits(many + ".a", "a", true);
            fits("a." + many, "a", true);
            fits(many + ".a", "b.a", true);
            fits(many + ".a", "a.b", false);
            fits("a." + many, "b.a", false);
            fits(many + ".*", "b", true);
            if (hashes <= 4) {
                fits("a." + many + ".b", "a.b", true);
                fits("a." + many + ".b", "a.c.d.e.f.b", true);
                fits("a." + many + ".b", "a", false);
                fits("a." + many + ".b", "b", false);
            }
        }
    }

    // Terms: "a * any one WORD"
    private static void promise6StarTakesOneWord() {
        for (int words = 1; words <= 6; words++) {
            for (int parts = 1; parts <= 6; parts++) {
                fits(Desks.parts("*", parts), Desks.parts("0", words), words == parts);
                fits(Desks.parts("*", parts), Desks.parts("zzzzzz", words), words == parts);
            }
        }
        fits("a.*", "a", false);
        fits("*.a", "a", false);
        fits("a.*.b", "a.b", false);
        fits("a.*.b", "a.c.b", true);
        fits("a.*.b", "a.c.c.b", false);
    }

    // Terms: "a WORD is that one"
    private static void promise6WordIsThatOne() {
        for (int signs = 1; signs <= 6; signs++) {
            String word = "abcdef".substring(0, signs);
            for (int others = 1; others <= 6; others++) {
                fits(word, "abcdef".substring(0, others), signs == others);
                fits("#." + word, "x." + "abcdef".substring(0, others), signs == others);
            }
            for (int at = 0; at < signs; at++) {
                String changed = word.substring(0, at) + "0" + word.substring(at + 1);
                fits(word, changed, false);
            }
        }
        for (int words = 1; words <= 6; words++) {
            for (int parts = 1; parts <= 6; parts++) {
                fits(Desks.parts("a", parts), Desks.parts("a", words), words == parts);
            }
        }
        fits(Desks.LONGEST, Desks.LONGEST, true);
        fits(Desks.LONGEST, Desks.LONGEST.substring(0, 40) + "8", false);
    }

    // Promise 6: "which is empty then in any case"
    private static void promise6EmptiesTheTapeInAnyCase() {
        SameState.tapeIsEmptyBehind("6: routed", Desks.some(), "a.b", TopicDesk::route);
        SameState.tapeIsEmptyBehind("6: goes nowhere", new TopicDesk(), "a.b", TopicDesk::route);
        SameState.tapeIsEmptyBehind("6: no topic", Desks.some(), "a.*", TopicDesk::route);
        SameState.tapeIsEmptyBehind("6: full tape", Desks.some(), "!".repeat(60), TopicDesk::route);
    }

    // Promise 6: "IllegalArgumentException: it is none"
    private static void promise6NoTopicChangesNothing() {
        for (int n = 0; n < Desks.NO_TOPICS.length; n++) {
            SameState.refused("6: no topic " + Desks.NO_TOPICS[n], Desks::some, Desks.NO_TOPICS[n], TopicDesk::route,
                    ILLEGAL_ARGUMENT, Desks.NO_TOPIC_FAULTS[n]);
        }
    }

    // Promise 9: "what 0 .. 3", "or another what"
    private static void promise9TakesWhat0To3() {
        TopicDesk desk = Desks.some();
        Checks.due("9: queue", desk.about(2, 0), 3);
        Checks.due("9: routed", desk.about(2, 1), 1);
        Checks.due("9: kept", desk.about(2, 2), 1);
        Checks.due("9: signs", desk.about(2, 3), 3);
        for (int what = -40; what <= 40; what++) {
            if (what < 0 || what > 3) {
                Checks.due("9: what " + what, desk.about(2, what), -1);
            }
        }
        for (int what : Desks.FAR_OFF) {
            Checks.due("9: what " + what, desk.about(2, what), -1);
        }
        TopicDesk zero = Checks.deskOf("a");
        Checks.due("9: queue 0", zero.about(0, 0), 0);
        Checks.due("9: none routed", zero.about(0, 1), 0);
        Checks.due("9: none kept", zero.about(0, 2), 0);
    }

    // Promise 9: "NONE: it is free, or there is none such"
    private static void promise9NoneSuchOrFree() {
        for (int what = -1; what <= 4; what++) {
            TopicDesk full = Desks.full();
            Checks.due("9: binding -1", full.about(-1, what), -1);
            Checks.due("9: binding 24", full.about(24, what), -1);
            for (int i : Desks.FAR_OFF) {
                Checks.due("9: binding " + i, full.about(i, what), -1);
            }
            Checks.due("9: free, never bound", new TopicDesk().about(0, what), -1);
            Checks.due("9: free again", Desks.some().about(1, what), -1);
        }
        TopicDesk full = Desks.full();
        Checks.due("9: binding 0", full.about(0, 0), 0);
        Checks.due("9: binding 23", full.about(23, 0), 7);
        Checks.due("9: signs of 23", full.about(23, 3), 3);
    }

    // Promise 9: "since it is bound"
    private static void promise9CountsRoutedSinceBound() {
        TopicDesk desk = new TopicDesk();
        Checks.route(desk, "a");
        Checks.bind(desk, "a.#", 0);
        Checks.due("9: none since", desk.about(0, 1), 0);
        Checks.route(desk, "a");
        Checks.route(desk, "b");
        Checks.due("9: one fits", desk.about(0, 1), 1);
        Checks.route(desk, "a.");
        Checks.route(desk, "a.*");
        Checks.route(desk, "");
        Checks.due("9: no topic counts nothing", desk.about(0, 1), 1);
        Checks.keep(desk, "a.b", 1);
        Checks.lose(desk, "a.b");
        Checks.due("9: nor do keep and lose", desk.about(0, 1), 1);
        Checks.bind(desk, "a", 0);
        Checks.due("9: another binding starts with none", desk.about(1, 1), 0);
        desk.free(0);
        Checks.route(desk, "a");
        Checks.bind(desk, "a.#", 0);
        Checks.due("9: bound anew", desk.about(0, 1), 0);
        Checks.due("9: the other goes on", desk.about(1, 1), 1);
    }

    // "at most 512 calls after it has been made"
    private static void promise9CountsUpToTheLastCall() {
        TopicDesk desk = Checks.deskOf("#");
        int calls = 2;
        int routed = 0;
        while (calls + 2 < LAST_CALL) {
            Checks.route(desk, routed % 2 == 0 ? "a" : "b");
            routed++;
            calls += 2;
        }
        Checks.due("9: one before the last call", desk.fault(), -1);
        Checks.due("9: at the last call", desk.about(0, 1), 254);
        Checks.due("9: that many were routed", routed, 254);
    }

    private static void promise9CountsKeptFromNoneToTwenty() {
        TopicDesk desk = Checks.deskOf("#", "*", "t.*", "u");
        for (int n = 0; n < 20; n++) {
            Checks.due("9: kept " + n, desk.about(0, 2), n);
            Checks.keep(desk, "t." + Desks.letter(n), n);
        }
        Checks.due("9: twenty fit #", desk.about(0, 2), 20);
        Checks.due("9: none fit *", desk.about(1, 2), 0);
        Checks.due("9: twenty fit t.*", desk.about(2, 2), 20);
        Checks.due("9: refused", Checks.keep(desk, "u", 1), ILLEGAL_STATE);
        Checks.due("9: none fit u", desk.about(3, 2), 0);
        for (int n = 0; n < 20; n++) {
            Checks.lose(desk, "t." + Desks.letter(n));
            Checks.due("9: fewer", desk.about(2, 2), 19 - n);
        }
        Checks.keep(desk, "t.t", 1);
        Checks.bind(desk, "t.t", 0);
        Checks.due("9: kept before it was bound", desk.about(4, 2), 1);
    }

    // Promise 9: "how many signs its PATTERN has"
    private static void promise9CountsSignsFromOneToFortyOne() {
        for (String pattern : new String[] {"a", "*", "#", "ab", "*.#", "abcdef", Desks.parts("*", 6), Desks.LONGEST}) {
            TopicDesk desk = Checks.deskOf(pattern);
            Checks.due("9: signs of " + pattern, desk.about(0, 3), pattern.length());
        }
        Checks.due("9: the longest", Desks.LONGEST.length(), 41);
    }

    private static void promise9ChangesNothing() {
        for (int what = -1; what <= 4; what++) {
            int asked = what;
            SameState.unchanged("9: about 0 " + what, desk -> {
                desk.about(0, asked);
                desk.about(1, asked);
                return desk.about(24, asked);
            }, -1);
        }
    }

    // Promise 11: "Sign at (from 0 on) of a BINDING's PATTERN"
    private static void promise11TakesEachPlaceOfThePattern() {
        for (String pattern : new String[] {"a", "*", "#", "z.9.0", "*.#.a", Desks.LONGEST}) {
            TopicDesk desk = Checks.deskOf(pattern);
            for (int at = 0; at < pattern.length(); at++) {
                Checks.due("11: " + at + " of " + pattern, desk.sign(0, at), (int) pattern.charAt(at));
            }
            Checks.due("11: one ahead of " + pattern, desk.sign(0, -1), -1);
            for (int at = pattern.length(); at <= 70; at++) {
                Checks.due("11: " + at + " behind " + pattern, desk.sign(0, at), -1);
            }
            for (int at : Desks.FAR_OFF) {
                Checks.due("11: far off " + at, desk.sign(0, at), -1);
            }
        }
    }

    // Promise 11: "NONE if there is none such"
    private static void promise11NoneSuch() {
        TopicDesk full = Desks.full();
        Checks.due("11: binding -1", full.sign(-1, 0), -1);
        Checks.due("11: binding 0", full.sign(0, 0), (int) '#');
        Checks.due("11: binding 23", full.sign(23, 2), (int) 'x');
        Checks.due("11: binding 24", full.sign(24, 0), -1);
        for (int i : Desks.FAR_OFF) {
            Checks.due("11: binding " + i, full.sign(i, 0), -1);
            Checks.due("11: both far off " + i, full.sign(i, i), -1);
        }
        Checks.due("11: never bound", new TopicDesk().sign(0, 0), -1);
        Checks.due("11: freed", Desks.some().sign(1, 0), -1);
        TopicDesk anew = Checks.deskOf(Desks.LONGEST);
        anew.free(0);
        Checks.bind(anew, "b.c", 0);
        Checks.due("11: last of the new one", anew.sign(0, 2), (int) 'c');
        for (int at = 3; at <= 41; at++) {
            Checks.due("11: nothing of the old one", anew.sign(0, at), -1);
        }
        SameState.unchanged("11: sign", desk -> {
            desk.sign(0, 0);
            desk.sign(1, 0);
            return desk.sign(0, 1);
        }, -1);
    }

    private static void fits(String pattern, String topic, boolean due) {
        TopicDesk desk = Checks.deskOf(pattern);
        Checks.due("6: " + topic + " to " + pattern, Checks.route(desk, topic), due ? 1 : 0);
        Checks.due("9: " + topic + " to " + pattern, desk.about(0, 1), due ? 1 : 0);
        Checks.keep(desk, topic, 5);
        Checks.due("9: " + topic + " kept for " + pattern, desk.about(0, 2), due ? 1 : 0);
    }
}
