import java.util.ArrayList;
import java.util.List;
import java.util.function.Function;
import java.util.function.Supplier;

/**
 * Whether two desks are in the same state, as far as calls can tell. Each probe gets two desks of
 * its own: so it may change what it looks at, and no desk comes to its 512th call.
 */
final class SameState {
    private static final int BINDINGS = 24;
    private static final int QUEUES = 16;
    private static final int MOST_KEPT = 20;
    private static final int TAPE_SIGNS = 60;

    private SameState() {
    }

    static void due(String what, Supplier<TopicDesk> got, Supplier<TopicDesk> want) {
        dueButFault(what, got, want);
        same(what + ", fault", got, want, TopicDesk::fault);
    }

    static void dueButFault(String what, Supplier<TopicDesk> got, Supplier<TopicDesk> want) {
        for (int i = 0; i < BINDINGS; i++) {
            int number = i;
            same(what + ", binding " + i, got, want, desk -> binding(desk, number));
            same(what + ", pairs of " + i, got, want, desk -> pairs(desk, number));
        }
        same(what + ", spares", got, want, SameState::spares);
        same(what + ", tape", got, want, SameState::tape);
        same(what + ", room on the tape", got, want, SameState::roomOnTape);
        same(what + ", kept", got, want, SameState::kept);
    }

    /** The call is refused: it empties the tape and its fault is told, but else nothing changes. */
    static void refused(String what, Supplier<TopicDesk> state, String tape, Function<TopicDesk, Object> call,
            String thrown, int fault) {
        dueButFault(what, () -> {
            TopicDesk desk = Desks.typed(state.get(), tape);
            Checks.due(what, Checks.answer(() -> call.apply(desk)), thrown);
            Checks.due(what + ", fault", desk.fault(), fault);
            return desk;
        }, state);
    }

    /** The call changes nothing at all, what is on the tape included. */
    static void unchanged(String what, Function<TopicDesk, Object> call, Object answer) {
        due(what, () -> {
            TopicDesk desk = Desks.typed(Desks.some(), "a.b");
            Checks.due(what, Checks.answer(() -> call.apply(desk)), answer);
            return desk;
        }, () -> Desks.typed(Desks.some(), "a.b"));
    }

    /** Behind the call nothing is left on the tape, and sixty signs have room there. */
    static void tapeIsEmptyBehind(String what, TopicDesk desk, String tape, Function<TopicDesk, Object> call) {
        Checks.type(desk, tape);
        Checks.answer(() -> call.apply(desk));
        Checks.due(what + ", nothing is left", Checks.answer(desk::route), "IllegalArgumentException");
        Checks.due(what + ", it ends at once", desk.fault(), 0);
        Checks.type(desk, tape);
        Checks.answer(() -> call.apply(desk));
        Checks.type(desk, "!".repeat(TAPE_SIGNS));
        Checks.due(what + ", sixty", desk.type('!', 1), false);
    }

    private static void same(String what, Supplier<TopicDesk> got, Supplier<TopicDesk> want,
            Function<TopicDesk, Object> probe) {
        Checks.due(what, probe.apply(got.get()), probe.apply(want.get()));
    }

    private static Object binding(TopicDesk desk, int i) {
        List<Object> seen = new ArrayList<>();
        for (int what = 0; what < 4; what++) {
            seen.add(desk.about(i, what));
        }
        addSigns(seen, desk, i);
        addKept(seen, desk, i);
        return seen;
    }

    private static Object pairs(TopicDesk desk, int i) {
        List<Object> seen = new ArrayList<>();
        for (int j = 0; j < BINDINGS; j++) {
            seen.add(desk.both(i, j));
            seen.add(desk.only(i, j));
        }
        return seen;
    }

    private static Object spares(TopicDesk desk) {
        List<Object> seen = new ArrayList<>();
        for (int queue = 0; queue < QUEUES; queue++) {
            seen.add(desk.spare(queue));
        }
        return seen;
    }

    /** The signs on the tape if it is a pattern, else its fault. */
    private static Object tape(TopicDesk desk) {
        List<Object> seen = new ArrayList<>();
        desk.free(0);
        Object number = Checks.answer(() -> desk.bind(0));
        seen.add(number);
        seen.add(desk.fault());
        if (number instanceof Integer) {
            addSigns(seen, desk, (Integer) number);
        }
        return seen;
    }

    private static Object roomOnTape(TopicDesk desk) {
        int added = 0;
        while (added <= TAPE_SIGNS && desk.type('!', 1)) {
            added++;
        }
        return added;
    }

    /** All that is kept, by a pattern that everything fits, and whether there is room for more. */
    private static Object kept(TopicDesk desk) {
        List<Object> seen = new ArrayList<>();
        Checks.answer(desk::route);
        desk.free(0);
        Object number = Checks.bind(desk, "#", 0);
        seen.add(number);
        if (number instanceof Integer) {
            seen.add(desk.about((Integer) number, 2));
            addKept(seen, desk, (Integer) number);
        }
        seen.add(Checks.keep(desk, "zzzzzz.zzzzzz", 0));
        return seen;
    }

    private static void addSigns(List<Object> seen, TopicDesk desk, int i) {
        for (int at = 0; at <= TAPE_SIGNS; at++) {
            seen.add(desk.sign(i, at));
        }
    }

    private static void addKept(List<Object> seen, TopicDesk desk, int i) {
        for (int k = 0; k <= MOST_KEPT; k++) {
            seen.add(Checks.kept(desk, i, k));
        }
    }
}
