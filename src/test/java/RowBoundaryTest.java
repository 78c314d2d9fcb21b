/**
 * Boundaries that the document names for the rows of two patterns: promises 12, 13 and 14. What a
 * label begins with is the promise's number.
 */
public final class RowBoundaryTest {
    private static final int[] NO_BINDINGS = {-1, 1, 24};

    private RowBoundaryTest() {
    }

    /** both() or only(). */
    private interface OfTwo {
        int of(TopicDesk desk, int i, int j);
    }

    public static void main(String[] args) {
        promise12RowsHaveOneWordAtLeast();
        promise12RowsOfUpToSixWords();
        promise12RowsOfMoreThanSixWords();
        promise12NoSuchRow();
        promise12OneBindingWithItself();
        promise12NoneSuchOrFree();
        promise12ChangesNothing();
        promise13RowsHaveOneWordAtLeast();
        promise13RowsOfUpToSixWords();
        promise13RowsOfMoreThanSixWords();
        promise13WordsThatNeitherHas();
        promise13NoSuchRow();
        promise13NoneSuchOrFree();
        promise13ChangesNothing();
        promise14NoSuchQueue();
        promise14WithoutSuch();
        promise14AnotherBindingOfThisQueue();
        promise14LesserNumberWithTheSameRows();
        promise14WiderWithAGreaterNumber();
        promise14OneAloneTakesEachRow();
        promise14LooksAtLongRowsToo();
        promise14BitsFrom0To23();
        promise14AsBindingsComeAndGo();
        promise14ChangesNothing();
        Checks.finish();
    }

    // Terms: "rows of 1 or more WORDS"
    private static void promise12RowsHaveOneWordAtLeast() {
        for (int first = 1; first <= 6; first++) {
            for (int second = 1; second <= 6; second++) {
                both(Desks.parts("#", first), Desks.parts("#", second), 1);
            }
            both(Desks.parts("#", first), "*", 1);
            both(Desks.parts("#", first), "a", 1);
            both(Desks.parts("#", first), "abcdef", 1);
        }
        for (int hashes = 1; hashes <= 5; hashes++) {
            both(Desks.parts("#", hashes) + ".a", "a", 1);
            both("a." + Desks.parts("#", hashes), "*", 1);
        }
        both("*", "*", 1);
        both("*", "a", 1);
        both("a", "a", 1);
    }

    // Promise 12: "The fewest WORDS"
    private static void promise12RowsOfUpToSixWords() {
        for (int n = 1; n <= 6; n++) {
            both(Desks.parts("*", n), "#", n);
            both(Desks.parts("abcdef", n), "#", n);
            for (int m = 1; m <= 6; m++) {
                both(Desks.parts("*", n), Desks.parts("*", m), n == m ? n : 0);
                both(Desks.parts("*", n), Desks.parts("a", m), n == m ? n : 0);
                if (m < 6) {
                    both(Desks.parts("*", n), Desks.parts("*", m) + ".#", n >= m ? n : 0);
                }
                if (n < 6 && m < 6) {
                    both(Desks.parts("*", n) + ".#", "#." + Desks.parts("*", m), Math.max(n, m));
                    both(Desks.parts("a", n) + ".#", "#." + Desks.parts("a", m), Math.max(n, m));
                }
            }
        }
    }

    // Terms: "as many as one likes"
    private static void promise12RowsOfMoreThanSixWords() {
        for (int n = 1; n <= 5; n++) {
            for (int m = 1; m <= 5; m++) {
                both(Desks.parts("a", n) + ".#", "#." + Desks.parts("b", m), n + m);
            }
        }
        both("a.b.c.d.e.#", "#.v.w.x.y.z", 10);
        both("a.b.c.d.e.#", "#.e.w.x.y.z", 9);
        both("a.b.c.d.e.#", "#.d.e.x.y.z", 8);
        both("a.b.c.d.e.#", "#.c.d.e.y.z", 7);
        both("a.b.c.d.e.#", "#.b.c.d.e.z", 6);
        both("a.b.c.d.e.#", "#.a.b.c.d.e", 5);
    }

    // Promise 12: "0 if there is no such row"
    private static void promise12NoSuchRow() {
        both("a", "b", 0);
        both("abcdef", "abcdee", 0);
        both("abcdef", "abcde", 0);
        both("a.#", "b.#", 0);
        both("#.a", "#.b", 0);
        both("a.#.b", "*", 0);
        both("*.*.#", "*", 0);
        both("#.*.#.*", "a", 0);
        both("a.*.#.b", "#.c", 0);
        both(Desks.LONGEST, Desks.LONGEST.substring(0, 40) + "8", 0);
        both(Desks.LONGEST, Desks.LONGEST, 6);
    }

    private static void promise12OneBindingWithItself() {
        String[] patterns = {"a", "*", "#", "#.#.#.#.#.#", "a.#", "#.a.#.b.#", "*.*.*.*.*.*", Desks.LONGEST};
        int[] due = {1, 1, 1, 1, 1, 2, 6, 6};
        for (int n = 0; n < patterns.length; n++) {
            Checks.due("12: itself " + patterns[n], Checks.deskOf(patterns[n]).both(0, 0), due[n]);
        }
    }

    // Promise 12: "NONE: one is free, or there is none such"
    private static void promise12NoneSuchOrFree() {
        noneSuchOrFree("12", TopicDesk::both);
        TopicDesk full = Desks.full();
        Checks.due("12: 0 and 23", full.both(0, 23), 2);
        Checks.due("12: 23 and 0", full.both(23, 0), 2);
        Checks.due("12: 23 and 22", full.both(23, 22), 0);
        Checks.due("12: 23 and 24", full.both(23, 24), -1);
        Checks.due("12: -1 and 0", full.both(-1, 0), -1);
    }

    private static void promise12ChangesNothing() {
        SameState.unchanged("12: a row", desk -> desk.both(0, 2), 2);
        SameState.unchanged("12: free", desk -> desk.both(0, 1), -1);
        SameState.unchanged("12: none such", desk -> desk.both(24, 0), -1);
    }

    // Terms: "rows of 1 or more WORDS": that of no words fits #, but is not looked at
    private static void promise13RowsHaveOneWordAtLeast() {
        for (String hash : new String[] {"#", "#.#", Desks.parts("#", 6)}) {
            only(hash, "*.#", 0);
            only(hash, "#.*", 0);
            only(hash, "#.*.#", 0);
            only(hash, "#", 0);
            only(hash, "*", 2);
            only(hash, "a", 1);
            only(hash, "*.*", 1);
            only(hash, "#.*.*", 1);
            only(hash, "#.*.#.*", 1);
            only(hash, "#.a", 1);
        }
    }

    // Promise 13: "The fewest WORDS of a row that FITS the PATTERN of i, but not that of j"
    private static void promise13RowsOfUpToSixWords() {
        for (int n = 1; n <= 6; n++) {
            only(Desks.parts("*", n), "#", 0);
            only(Desks.parts("*", n), Desks.parts("a", n), n);
            only(Desks.parts("a", n), Desks.parts("*", n), 0);
            for (int m = 1; m <= 6; m++) {
                only(Desks.parts("*", n), Desks.parts("*", m), n == m ? 0 : n);
                only(Desks.parts("a", n), Desks.parts("a", m), n == m ? 0 : n);
                if (n < 6) {
                    only(Desks.parts("*", n) + ".#", Desks.parts("*", m), n == m ? n + 1 : n);
                }
                if (n < 6 && m < 6) {
                    only(Desks.parts("*", n) + ".#", "#." + Desks.parts("*", m), n < m ? n : 0);
                }
            }
        }
    }

    // Terms: "as many as one likes"
    private static void promise13RowsOfMoreThanSixWords() {
        for (int last = 1; last <= 5; last++) {
            for (int at = 1; at <= 5; at++) {
                String ends = "#." + Desks.parts("b", last);
                String hasAt = (at == 1 ? "" : Desks.parts("*", at - 1) + ".") + "b.#";
                // Unless it is too short to have that place, all of the row's end must lie behind it.
                only(ends, hasAt, last < at ? last : last + at);
            }
        }
        only("#.b.b.b.b.b", "*.*.*.*.b.#", 10);
    }

    private static void promise13WordsThatNeitherHas() {
        only("*", "a", 1);
        only("#.*", "#.a", 1);
        only("a.*", "a.b", 2);
        only("a.*.c", "a.b.c", 3);
        only("*.*.*.*.*.*", Desks.LONGEST, 6);
        only("abcdef", "abcdee", 1);
        only("abcdef", "abcde", 1);
        only("zzzzzz", "zzzzzz", 0);
    }

    // Promise 13: "0 .. likewise"
    private static void promise13NoSuchRow() {
        only("a", "a", 0);
        only("a", "*", 0);
        only("a", "#", 0);
        only("#.*", "*.#", 0);
        only("*.#", "#.*", 0);
        only("a", "#.#.#.#.#.a", 0);
        only("a", "a.#.#.#.#.#", 0);
        only("a.#.b", "a.#.*", 0);
        only("a.*.b", "a.#.b", 0);
        only("#.a.b.#", "#.a.#.b.#", 0);
        only("*.#.*", "#.*.*.#", 0);
        only(Desks.LONGEST, Desks.LONGEST, 0);
        for (String pattern : new String[] {"a", "*", "#", "a.#", "#.a.#.b.#", Desks.LONGEST}) {
            Checks.due("13: itself " + pattern, Checks.deskOf(pattern).only(0, 0), 0);
        }
    }

    // Promise 13: "NONE likewise"
    private static void promise13NoneSuchOrFree() {
        noneSuchOrFree("13", TopicDesk::only);
        TopicDesk full = Desks.full();
        Checks.due("13: 0 and 23", full.only(0, 23), 1);
        Checks.due("13: 23 and 0", full.only(23, 0), 0);
        Checks.due("13: 23 and 22", full.only(23, 22), 2);
        Checks.due("13: 23 and 24", full.only(23, 24), -1);
        Checks.due("13: -1 and 0", full.only(-1, 0), -1);
    }

    private static void promise13ChangesNothing() {
        SameState.unchanged("13: a row", desk -> desk.only(0, 2), 1);
        SameState.unchanged("13: no row", desk -> desk.only(2, 0), 0);
        SameState.unchanged("13: free", desk -> desk.only(1, 0), -1);
        SameState.unchanged("13: none such", desk -> desk.only(0, -1), -1);
    }

    // Promise 14: "0 .. if there is no such QUEUE"
    private static void promise14NoSuchQueue() {
        TopicDesk desk = new TopicDesk();
        for (int i = 0; i < 24; i++) {
            Checks.bind(desk, "#", i < 12 ? 0 : 15);
        }
        Checks.due("14: queue -1", desk.spare(-1), 0);
        Checks.due("14: queue 0", desk.spare(0), 0x000FFE);
        Checks.due("14: queue 15", desk.spare(15), 0xFFE000);
        Checks.due("14: queue 16", desk.spare(16), 0);
        for (int queue : Desks.FAR_OFF) {
            Checks.due("14: queue " + queue, desk.spare(queue), 0);
        }
        // A free binding has no queue: it must not be taken for one of queue -1.
        Checks.due("14: queue -1 of some", Desks.some().spare(-1), 0);
        Checks.due("14: queue -1 of a new one", new TopicDesk().spare(-1), 0);
    }

    // Promise 14: "0 without such"
    private static void promise14WithoutSuch() {
        for (int queue = 0; queue < 16; queue++) {
            Checks.due("14: none bound to " + queue, new TopicDesk().spare(queue), 0);
            TopicDesk one = new TopicDesk();
            Checks.bind(one, "#", queue);
            Checks.due("14: one bound to " + queue, one.spare(queue), 0);
        }
        spare(0, "a", "b", "c.#", "*.*");
        spare(0, "a.*", "*.b");
        spare(0, "*", "*.*", "*.*.*", "*.*.*.*", "*.*.*.*.*", "*.*.*.*.*.*");
        spare(0, "#.a", "a.#");
    }

    // Promise 14: "another BINDING's PATTERN of this QUEUE"
    private static void promise14AnotherBindingOfThisQueue() {
        spare(0, "#");
        for (int queue = 0; queue < 16; queue++) {
            TopicDesk desk = new TopicDesk();
            Checks.bind(desk, "#", (queue + 15) % 16);
            Checks.bind(desk, "a", queue);
            Checks.bind(desk, "#", (queue + 1) % 16);
            Checks.due("14: others have another queue", desk.spare(queue), 0);
            Checks.bind(desk, "*", queue);
            Checks.due("14: one has this queue", desk.spare(queue), 2);
        }
    }

    // Promise 14: "one that has a lesser number"
    private static void promise14LesserNumberWithTheSameRows() {
        String[][] alike = {{"a", "a"}, {"#", "#"}, {"#", "#.#"}, {"#", "*.#"}, {"#.*", "*.#"},
            {"*.*.#", "*.#.*"}, {"#.*.#.*.#", "*.*.#"}, {"#", "#.*.#"}, {Desks.LONGEST, Desks.LONGEST}};
        for (String[] two : alike) {
            spare(2, two[0], two[1]);
            spare(2, two[1], two[0]);
            spare(6, two[0], two[1], two[0]);
            spare(14, two[1], two[0], two[0], two[1]);
        }
    }

    // Promise 14: "or one of which some row does not FIT them"
    private static void promise14WiderWithAGreaterNumber() {
        String[][] narrowThenWide = {{"a", "*"}, {"*", "#"}, {"a", "#"}, {"a", "a.#"}, {"a.b", "a.*"},
            {"a.*", "a.#"}, {"*.*.#", "#"}, {"#.a.b.#", "#.a.#.b.#"}, {Desks.LONGEST, "*.*.*.*.*.*"}};
        for (String[] two : narrowThenWide) {
            spare(1, two[0], two[1]);
            spare(2, two[1], two[0]);
            spare(3, two[0], two[0], two[1]);
            spare(5, two[0], two[1], two[0]);
            spare(6, two[1], two[0], two[1]);
        }
        spare(27, "a", "*", "*.#", "#.#.#", "#");
    }

    private static void promise14OneAloneTakesEachRow() {
        spare(6, "#", "*", "*.*.#");
        spare(3, "*", "*.*.#", "#");
        spare(0, "*.#.a", "a.#", "#.b");
    }

    // Terms: "as many as one likes": longer rows than a topic can have count, too
    private static void promise14LooksAtLongRowsToo() {
        spare(0, "#.b.b.b.b.b", "*.*.*.*.b.#");
        spare(0, "*.*.*.*.b.#", "#.b.b.b.b.b");
        spare(1, "*.*.*.*.*.*", "*.*.*.*.*.#");
        spare(0, "#.a.#", "#.*.*");
    }

    // Terms: "BINDINGS 0 .. 23"; promise 14: "As bits"
    private static void promise14BitsFrom0To23() {
        for (int wide = 0; wide < 24; wide++) {
            TopicDesk desk = new TopicDesk();
            for (int i = 0; i < 24; i++) {
                Checks.bind(desk, i == wide ? "#" : Desks.letter(i), 15);
            }
            Checks.due("14: all but " + wide, desk.spare(15), 0xFFFFFF ^ 1 << wide);
        }
        for (int twin = 1; twin < 24; twin++) {
            TopicDesk desk = new TopicDesk();
            for (int i = 0; i < 24; i++) {
                Checks.bind(desk, i == twin ? "a" : Desks.letter(i), 0);
            }
            Checks.due("14: only " + twin, desk.spare(0), 1 << twin);
        }
    }

    private static void promise14AsBindingsComeAndGo() {
        TopicDesk desk = Checks.deskOf("a", "a", "#");
        Checks.due("14: two", desk.spare(0), 3);
        desk.free(2);
        Checks.due("14: the wide one is free", desk.spare(0), 2);
        desk.free(0);
        Checks.due("14: its twin is free", desk.spare(0), 0);
        Checks.due("14: bind anew", Checks.bind(desk, "a", 0), 0);
        Checks.due("14: the lesser number stays", desk.spare(0), 2);
        desk.free(0);
        Checks.due("14: to another queue", Checks.bind(desk, "a", 1), 0);
        Checks.due("14: that counts no more", desk.spare(0), 0);
        Checks.due("14: nor there", desk.spare(1), 0);
    }

    private static void promise14ChangesNothing() {
        SameState.unchanged("14: one spare", desk -> desk.spare(3), 4);
        SameState.unchanged("14: none bound", desk -> desk.spare(0), 0);
        SameState.unchanged("14: no such queue", desk -> desk.spare(16), 0);
    }

    private static void noneSuchOrFree(String promise, OfTwo call) {
        TopicDesk desk = Checks.deskOf("#");
        for (int i : NO_BINDINGS) {
            Checks.due(promise + ": second " + i, call.of(desk, 0, i), -1);
            Checks.due(promise + ": first " + i, call.of(desk, i, 0), -1);
            for (int j : NO_BINDINGS) {
                Checks.due(promise + ": " + i + " and " + j, call.of(desk, i, j), -1);
            }
        }
        for (int i : Desks.FAR_OFF) {
            Checks.due(promise + ": second " + i, call.of(desk, 0, i), -1);
            Checks.due(promise + ": first " + i, call.of(desk, i, 0), -1);
            Checks.due(promise + ": both " + i, call.of(desk, i, i), -1);
        }
        desk.free(0);
        Checks.due(promise + ": free again", call.of(desk, 0, 0), -1);
    }

    private static void both(String first, String second, int due) {
        TopicDesk desk = Checks.deskOf(first, second);
        Checks.due("12: " + first + " and " + second, desk.both(0, 1), due);
        Checks.due("12: " + second + " and " + first, desk.both(1, 0), due);
    }

    private static void only(String first, String second, int due) {
        TopicDesk desk = Checks.deskOf(first, second);
        Checks.due("13: " + first + " but not " + second, desk.only(0, 1), due);
        TopicDesk turned = Checks.deskOf(second, first);
        Checks.due("13: the same by other numbers", turned.only(1, 0), due);
    }

    private static void spare(int due, String... patterns) {
        TopicDesk desk = Checks.deskOf(patterns);
        Checks.due("14: of " + String.join(" ", patterns), desk.spare(0), due);
    }
}
