import java.util.ArrayList;
import java.util.Arrays;
import java.util.Collections;
import java.util.List;
import java.util.Random;

/**
 * Boundaries that the document names for what is kept: promises 7, 8 and 10. What a label begins
 * with is the promise's number.
 */
public final class KeptBoundaryTest {
    private static final String ILLEGAL_ARGUMENT = "IllegalArgumentException";
    private static final String ILLEGAL_STATE = "IllegalStateException";
    private static final String NO_SUCH = "NoSuchElementException";
    private static final String SIGNS_IN_ORDER = ".0123456789abcdefghijklmnopqrstuvwxyz";

    private KeptBoundaryTest() {
    }

    public static void main(String[] args) {
        promise7KeepsTwenty();
        promise7OneMoreChangesNothing();
        promise7KeptOneAgainWhenFull();
        promise7NoTopicChangesNothing();
        promise7TakesEachInt();
        promise7KeepsShortestAndLongest();
        promise7EmptiesTheTapeInAnyCase();
        promise8LosesFromOneAndFromFull();
        promise8WhetherItWas();
        promise8NotKeptChangesNothing();
        promise8NoTopicChangesNothing();
        promise8EmptiesTheTapeInAnyCase();
        promise10FromTheFirstToTheLast();
        promise10OfThoseThatFit();
        promise10NoneSuchOrFree();
        promise10FirstSignThatDiffers();
        promise10TextAheadOfWhatItBegins();
        promise10OrderDoesNotHangOnWhatCameFirst();
        promise10ChangesNothing();
        Checks.finish();
    }

    // Terms: "KEPT: TOPICS, at most 20"; promise 7: "it is not KEPT, and 20 are"
    private static void promise7KeepsTwenty() {
        for (boolean upwards : new boolean[] {true, false}) {
            TopicDesk desk = Checks.deskOf("#");
            for (int n = 0; n < 20; n++) {
                String topic = Desks.letter(upwards ? n : 19 - n);
                Checks.due("7: how many", Checks.keep(desk, topic, n), n + 1);
                Checks.due("7: they are kept", desk.about(0, 2), n + 1);
            }
            for (String more : new String[] {"0", "a.a", "j.x", "u", "z"}) {
                Checks.due("7: one more, " + more, Checks.keep(desk, more, 1), ILLEGAL_STATE);
                Checks.due("7: still twenty", desk.about(0, 2), 20);
            }
            Checks.due("7: lose one", Checks.lose(desk, "a"), true);
            Checks.due("7: one more has room", Checks.keep(desk, "z", 1), 20);
            Checks.due("7: and no other", Checks.keep(desk, "a", 1), ILLEGAL_STATE);
        }
    }

    private static void promise7OneMoreChangesNothing() {
        for (String more : new String[] {"0", "m", "m.jj", "m.z", "zzzzzz", Desks.LONGEST}) {
            SameState.refused("7: one more, " + more, Desks::full, more, desk -> desk.keep(5), ILLEGAL_STATE, -1);
        }
        SameState.refused("7: full, but no topic", Desks::full, "m.", desk -> desk.keep(5), ILLEGAL_ARGUMENT, 2);
        SameState.refused("7: full, and no tape", Desks::full, "", desk -> desk.keep(5), ILLEGAL_ARGUMENT, 0);
    }

    private static void promise7KeptOneAgainWhenFull() {
        for (int n = 0; n < 20; n++) {
            TopicDesk desk = Desks.full();
            Checks.due("7: again", Checks.keep(desk, "m." + Desks.letter(n), -5), 20);
            Checks.due("7: twenty", desk.about(0, 2), 20);
            for (int k = 0; k < 20; k++) {
                Checks.due("7: its value alone", Checks.kept(desk, 0, k), k == n ? -5 : 100 + k);
            }
        }
        TopicDesk one = Checks.deskOf("#");
        Checks.due("7: first", Checks.keep(one, "a", 1), 1);
        Checks.due("7: the same", Checks.keep(one, "a", 2), 1);
        Checks.due("7: from now on", Checks.kept(one, 0, 0), 2);
        Checks.due("7: no other", Checks.kept(one, 0, 1), NO_SUCH);
    }

    // Promise 7: "IllegalArgumentException: it is none"
    private static void promise7NoTopicChangesNothing() {
        for (int n = 0; n < Desks.NO_TOPICS.length; n++) {
            SameState.refused("7: no topic " + Desks.NO_TOPICS[n], Desks::some, Desks.NO_TOPICS[n],
                    desk -> desk.keep(5), ILLEGAL_ARGUMENT, Desks.NO_TOPIC_FAULTS[n]);
        }
    }

    // Terms: "each with a VALUE (an int)"
    private static void promise7TakesEachInt() {
        for (int value : new int[] {Integer.MIN_VALUE, Integer.MIN_VALUE + 1, -1, 0, 1, Integer.MAX_VALUE}) {
            TopicDesk desk = Checks.deskOf("#");
            Checks.due("7: value " + value, Checks.keep(desk, "a", value), 1);
            Checks.due("7: is kept", Checks.kept(desk, 0, 0), value);
        }
    }

    private static void promise7KeepsShortestAndLongest() {
        TopicDesk desk = Checks.deskOf("#", Desks.LONGEST, "0");
        Checks.due("7: longest", Checks.keep(desk, Desks.LONGEST, 1), 1);
        Checks.due("7: all but the last sign", Checks.keep(desk, Desks.LONGEST.substring(0, 40), 2), 2);
        Checks.due("7: shortest", Checks.keep(desk, "0", 3), 3);
        Checks.due("7: longest fits", Checks.kept(desk, 1, 0), 1);
        Checks.due("7: alone", desk.about(1, 2), 1);
        Checks.due("7: shortest fits", Checks.kept(desk, 2, 0), 3);
        Checks.due("7: lose the longest", Checks.lose(desk, Desks.LONGEST), true);
        Checks.due("7: not the other", Checks.kept(desk, 0, 1), 2);
    }

    // Promise 7: "which is empty then in any case"
    private static void promise7EmptiesTheTapeInAnyCase() {
        SameState.tapeIsEmptyBehind("7: kept", Desks.some(), "c", desk -> desk.keep(1));
        SameState.tapeIsEmptyBehind("7: kept already", Desks.some(), "a", desk -> desk.keep(1));
        SameState.tapeIsEmptyBehind("7: no topic", Desks.some(), "a.*", desk -> desk.keep(1));
        SameState.tapeIsEmptyBehind("7: full tape", Desks.some(), "!".repeat(60), desk -> desk.keep(1));
        SameState.tapeIsEmptyBehind("7: one more", Desks.full(), "c", desk -> desk.keep(1));
    }

    // Promise 8: "KEPT no more"
    private static void promise8LosesFromOneAndFromFull() {
        for (int n = 0; n < 20; n++) {
            TopicDesk desk = Desks.full();
            Checks.due("8: lost", Checks.lose(desk, "m." + Desks.letter(n)), true);
            Checks.due("8: nineteen", desk.about(0, 2), 19);
            for (int k = 0; k < 19; k++) {
                Checks.due("8: the others close up", Checks.kept(desk, 0, k), 100 + (k < n ? k : k + 1));
            }
            Checks.due("8: no twentieth", Checks.kept(desk, 0, 19), NO_SUCH);
            Checks.due("8: kept anew", Checks.keep(desk, "m." + Desks.letter(n), 100 + n), 20);
            for (int k = 0; k < 20; k++) {
                Checks.due("8: as before", Checks.kept(desk, 0, k), 100 + k);
            }
        }
        SameState.dueButFault("8: the only one", () -> {
            TopicDesk desk = new TopicDesk();
            Checks.keep(desk, Desks.LONGEST, 9);
            Checks.due("8: lost", Checks.lose(desk, Desks.LONGEST), true);
            return desk;
        }, TopicDesk::new);
    }

    // Promise 8: "whether it was"
    private static void promise8WhetherItWas() {
        TopicDesk desk = Desks.full();
        for (int n = 0; n < 20; n++) {
            Checks.due("8: it was", Checks.lose(desk, "m." + Desks.letter(n)), true);
            Checks.due("8: it is no more", Checks.lose(desk, "m." + Desks.letter(n)), false);
        }
        Checks.due("8: none is left", desk.about(0, 2), 0);
        Checks.due("8: nothing to lose", Checks.lose(desk, "m.a"), false);
        Checks.due("8: from one on again", Checks.keep(desk, "m.a", 1), 1);
        Checks.due("8: of a new desk", Checks.lose(new TopicDesk(), "a"), false);
    }

    private static void promise8NotKeptChangesNothing() {
        for (String other : new String[] {"0", "m", "m.a.a", "m.aa", "m.z", "a.m", "zzzzzz", Desks.LONGEST}) {
            SameState.dueButFault("8: not kept, " + other, () -> {
                TopicDesk desk = Desks.full();
                Checks.due("8: lose " + other, Checks.lose(desk, other), false);
                return desk;
            }, Desks::full);
        }
    }

    // Promise 8: "IllegalArgumentException: it is none"
    private static void promise8NoTopicChangesNothing() {
        for (int n = 0; n < Desks.NO_TOPICS.length; n++) {
            SameState.refused("8: no topic " + Desks.NO_TOPICS[n], Desks::some, Desks.NO_TOPICS[n],
                    TopicDesk::lose, ILLEGAL_ARGUMENT, Desks.NO_TOPIC_FAULTS[n]);
        }
    }

    // Promise 8: "which is empty then in any case"
    private static void promise8EmptiesTheTapeInAnyCase() {
        SameState.tapeIsEmptyBehind("8: lost", Desks.some(), "a", TopicDesk::lose);
        SameState.tapeIsEmptyBehind("8: not kept", Desks.some(), "c", TopicDesk::lose);
        SameState.tapeIsEmptyBehind("8: no topic", Desks.some(), "a.*", TopicDesk::lose);
        SameState.tapeIsEmptyBehind("8: full tape", Desks.some(), "!".repeat(60), TopicDesk::lose);
    }

    // Promise 10: "the k-th (from 0 on)"
    private static void promise10FromTheFirstToTheLast() {
        for (int count = 0; count <= 20; count++) {
            TopicDesk desk = Checks.deskOf("#");
            for (int n = 0; n < count; n++) {
                Checks.keep(desk, Desks.letter(n), 10 * n);
            }
            for (int k = -3; k <= 40; k++) {
                Object due = k >= 0 && k < count ? (Object) (10 * k) : NO_SUCH;
                Checks.due("10: " + k + " of " + count, Checks.kept(desk, 0, k), due);
            }
            for (int k : Desks.FAR_OFF) {
                Checks.due("10: " + k + " of " + count, Checks.kept(desk, 0, k), NO_SUCH);
            }
        }
    }

    // Promise 10: "of the KEPT TOPICS that FIT a BINDING"
    private static void promise10OfThoseThatFit() {
        TopicDesk desk = Checks.deskOf("*", "*.*", "b.#", "#.c", "d");
        String[] topics = {"a", "a.c", "b", "b.b.c", "c", "c.b"};
        for (int n = 0; n < topics.length; n++) {
            Checks.keep(desk, topics[n], n);
        }
        keptOf(desk, 0, 0, 2, 4);
        keptOf(desk, 1, 1, 5);
        keptOf(desk, 2, 2, 3);
        keptOf(desk, 3, 1, 3, 4);
        keptOf(desk, 4);
    }

    private static void keptOf(TopicDesk desk, int i, int... due) {
        Checks.due("10: ahead of the first", Checks.kept(desk, i, -1), NO_SUCH);
        for (int k = 0; k < due.length; k++) {
            Checks.due("10: " + k + " of binding " + i, Checks.kept(desk, i, k), due[k]);
        }
        Checks.due("10: behind the last", Checks.kept(desk, i, due.length), NO_SUCH);
    }

    // Promise 10: "or the BINDING is free, or none"
    private static void promise10NoneSuchOrFree() {
        TopicDesk full = Desks.full();
        Checks.due("10: binding -1", Checks.kept(full, -1, 0), NO_SUCH);
        Checks.due("10: binding 0", Checks.kept(full, 0, 0), 100);
        Checks.due("10: binding 21", Checks.kept(full, 21, 19), 119);
        Checks.due("10: binding 23, which none fits", Checks.kept(full, 23, 0), NO_SUCH);
        Checks.due("10: binding 24", Checks.kept(full, 24, 0), NO_SUCH);
        for (int i : Desks.FAR_OFF) {
            Checks.due("10: binding " + i, Checks.kept(full, i, 0), NO_SUCH);
            Checks.due("10: both far off " + i, Checks.kept(full, i, i), NO_SUCH);
        }
        full.free(23);
        Checks.bind(full, "m.*", 0);
        Checks.due("10: binding 23", Checks.kept(full, 23, 19), 119);
        full.free(23);
        Checks.due("10: free again", Checks.kept(full, 23, 0), NO_SUCH);
        Checks.due("10: never bound", Checks.kept(Desks.some(), 3, 0), NO_SUCH);
        Checks.due("10: nothing kept", Checks.kept(Checks.deskOf("#"), 0, 0), NO_SUCH);
    }

    // Promise 10: "the first sign that differs: . ahead of 0 .. 9, these ahead of a .. z"
    private static void promise10FirstSignThatDiffers() {
        for (int low = 0; low < SIGNS_IN_ORDER.length(); low++) {
            for (int high = low + 1; high < SIGNS_IN_ORDER.length(); high++) {
                char lower = SIGNS_IN_ORDER.charAt(low);
                char higher = SIGNS_IN_ORDER.charAt(high);
                inOrder("x" + lower + "z", "x" + higher + "0");
                inOrder("x.y" + lower + "z.z.z", "x.y" + higher + "0");
                if (lower != '.') {
                    inOrder(lower + ".z.z.z.z.zzzzzz", String.valueOf(higher));
                    inOrder(Desks.LONGEST.substring(0, 40) + lower, Desks.LONGEST.substring(0, 40) + higher);
                }
            }
        }
    }

    // Promise 10: "a text ahead of what it begins"
    private static void promise10TextAheadOfWhatItBegins() {
        for (String more : new String[] {".0", ".z", "0", "z", "zzzzz", ".a.b.c.d.e"}) {
            inOrder("a", "a" + more);
            inOrder("0", "0" + more);
        }
        for (int length = 1; length < Desks.LONGEST.length(); length++) {
            String begin = Desks.LONGEST.substring(0, length);
            if (!begin.endsWith(".")) {
                inOrder(begin, Desks.LONGEST);
            }
        }
    }

    private static void inOrder(String first, String second) {
        TopicDesk upwards = Checks.deskOf("#");
        Checks.due("10: keep " + first, Checks.keep(upwards, first, 1), 1);
        Checks.due("10: keep " + second, Checks.keep(upwards, second, 2), 2);
        keptOf(upwards, 0, 1, 2);
        TopicDesk downwards = Checks.deskOf("#");
        Checks.due("10: keep " + second, Checks.keep(downwards, second, 2), 1);
        Checks.due("10: keep " + first, Checks.keep(downwards, first, 1), 2);
        keptOf(downwards, 0, 1, 2);
    }

    private static void promise10OrderDoesNotHangOnWhatCameFirst() {
        List<String> topics = Arrays.asList("0", "0.0", "0.z", "00", "09", "0a", "9.9", "a", "a.0", "a.0.0", "a.a",
                "a.a.z", "a.aa", "a0", "aa", "aa.z", "az", "b.a", "z", "zzzzzz");
        Random random = new Random(10);
        for (int turn = 0; turn < 100; turn++) {
            List<Integer> order = new ArrayList<>();
            for (int n = 0; n < topics.size(); n++) {
                order.add(n);
            }
            Collections.shuffle(order, random);
            TopicDesk desk = Checks.deskOf("#");
            for (int n : order) {
                Checks.keep(desk, topics.get(n), n);
            }
            for (int k = 0; k < topics.size(); k++) {
                Checks.due("10: turn " + turn, Checks.kept(desk, 0, k), k);
            }
            int lost = order.get(0);
            Checks.lose(desk, topics.get(lost));
            for (int k = 0; k < topics.size() - 1; k++) {
                Checks.due("10: turn " + turn + ", one lost", Checks.kept(desk, 0, k), k < lost ? k : k + 1);
            }
        }
    }

    private static void promise10ChangesNothing() {
        SameState.unchanged("10: kept", desk -> desk.kept(0, 1), 7);
        SameState.unchanged("10: behind the last", desk -> desk.kept(0, 2), NO_SUCH);
        SameState.unchanged("10: ahead of the first", desk -> desk.kept(0, -1), NO_SUCH);
        SameState.unchanged("10: free", desk -> desk.kept(1, 0), NO_SUCH);
        SameState.unchanged("10: none such", desk -> desk.kept(24, 0), NO_SUCH);
    }
}
