import java.util.HashMap;
import java.util.LinkedHashMap;
import java.util.Map;
import java.util.function.BiConsumer;
import java.util.function.Consumer;
import java.util.function.Predicate;
import java.util.function.ToIntFunction;

/**
 * A call that is refused changes nothing. Two desks are made alike, one has the refused call more,
 * and all that can be asked of both behind it must be answered alike: what is told at once, and
 * what only shows when a run goes on, when places of each kind come, or when takes miss.
 */
final class Twins {
    private static final int NONE = PlacingDesk.NONE;

    private final Dues dues;
    private final Map<String, BiConsumer<PlacingDesk, Log>> probes = new LinkedHashMap<>();
    private final Map<String, String> answersOfPlain = new HashMap<>();

    /** The answers of a desk, one behind the other. */
    private static final class Log {
        private final StringBuilder text = new StringBuilder();

        void add(String call, long answer) {
            text.append(' ').append(call).append('=').append(answer);
        }

        void add(String call, boolean answer) {
            add(call, answer ? 1 : 0);
        }
    }

    Twins(Dues dues) {
        this.dues = dues;
        probes.put("a run", Twins::probeRun);
        probes.put("misses", Twins::probeMisses);
        probes.put("again", Twins::probeAgain);
        probes.put("late", Twins::probeLate);
        for (int kind = 0; kind < 8; kind++) {
            int k = kind;
            probes.put("kind " + k + " by a high one", (desk, log) -> probeKind(desk, log, k, 4));
            probes.put("kind " + k + " by a low one", (desk, log) -> probeKind(desk, log, k, 7));
        }
    }

    /** The call answers false in each of the states of Desks, and changes nothing. */
    void isFalse(String call, Predicate<PlacingDesk> made) {
        Desks.states().forEach((name, state) -> refuse(call, name, state, number(made), 0));
    }

    /** The call answers NONE in each of the states of Desks, and changes nothing. */
    void isNone(String call, ToIntFunction<PlacingDesk> made) {
        Desks.states().forEach((name, state) -> refuse(call, name, state, made, NONE));
    }

    /** The call answers false in this state, and changes nothing. */
    void isFalse(String call, String name, Consumer<PlacingDesk> state, Predicate<PlacingDesk> made) {
        refuse(call, name, state, number(made), 0);
    }

    /** The call answers NONE in this state, and changes nothing. */
    void isNone(String call, String name, Consumer<PlacingDesk> state,
            ToIntFunction<PlacingDesk> made) {
        refuse(call, name, state, made, NONE);
    }

    private static ToIntFunction<PlacingDesk> number(Predicate<PlacingDesk> made) {
        return desk -> made.test(desk) ? 1 : 0;
    }

    private void refuse(String call, String name, Consumer<PlacingDesk> state,
            ToIntFunction<PlacingDesk> made, int refusal) {
        probes.forEach((probe, ask) -> {
            String plain = answersOfPlain.computeIfAbsent(name + " / " + probe, both -> {
                PlacingDesk desk = new PlacingDesk();
                state.accept(desk);
                return answers(desk, ask);
            });
            PlacingDesk desk = new PlacingDesk();
            state.accept(desk);
            dues.due(call + " on " + name, made.applyAsInt(desk), refusal);
            dues.dueSame(call + " on " + name + " (" + probe + ")", answers(desk, ask), plain);
        });
    }

    private static String answers(PlacingDesk desk, BiConsumer<PlacingDesk, Log> ask) {
        Log log = new Log();
        ask.accept(desk, log);
        return log.text.toString();
    }

    /** All that is told at once. */
    private static void look(PlacingDesk desk, Log log) {
        for (int what = 0; what < 5; what++) {
            log.add("count(" + what + ")", desk.count(what));
        }
        for (int i = 0; i < 10; i++) {
            log.add("plan(" + i + ")", desk.plan(i));
            log.add("state(" + i + ")", desk.state(i));
        }
        for (int s = 0; s < 8; s++) {
            log.add("slot(" + s + ",0)", desk.slot(s, 0));
            log.add("slot(" + s + ",1)", desk.slot(s, 1));
        }
        for (int what = 0; what < 8; what++) {
            log.add("told(" + what + ")", desk.told(what));
        }
        log.add("good", desk.good());
        log.add("ticks", desk.ticks());
    }

    private static void lookAtPairs(PlacingDesk desk, Log log) {
        for (int p = 0; p < 10; p++) {
            for (int q = 0; q < 10; q++) {
                log.add("ahead(" + p + "," + q + ")", desk.ahead(p, q));
            }
        }
    }

    private static void probeRun(PlacingDesk desk, Log log) {
        look(desk, log);
        lookAtPairs(desk, log);
        log.add("run", desk.run());
        look(desk, log);
        for (int s = 0; s < 8; s++) {
            desk.feeder(s, s % 3, 3);
        }
        log.add("run", desk.run());
        look(desk, log);
        log.add("lay", desk.lay());
        look(desk, log);
    }

    private static void probeMisses(PlacingDesk desk, Log log) {
        for (int n = 1; n <= 200; n++) {
            log.add("miss(" + n + ")", desk.miss(n));
        }
    }

    /** When all takes miss, their number tells AGAIN; fine parts with a nozzle tell the machine. */
    private static void probeAgain(PlacingDesk desk, Log log) {
        desk.kind(6, 1, 1, 1, true);
        desk.place(190, 190, 6);
        desk.place(180, 190, 6);
        desk.feeder(7, 6, 100);
        log.add("best", desk.best());
        log.add("run", desk.run());
        for (int n = 1; n <= 60; n++) {
            log.add("miss(" + n + ")", desk.miss(n));
        }
        log.add("run", desk.run());
        look(desk, log);
    }

    private static void probeLate(PlacingDesk desk, Log log) {
        for (int p = 0; p < 10; p++) {
            for (int q = 0; q < 10; q++) {
                log.add("late(" + p + "," + q + ")", desk.late(p, q));
            }
        }
        look(desk, log);
        lookAtPairs(desk, log);
    }

    /** A place of the kind tells its size and height by another one beside it, the rest by ticks. */
    private static void probeKind(PlacingDesk desk, Log log, int kind, int beside) {
        int first = desk.place(150, 60, kind);
        int second = NONE;
        for (int away = 1; away <= 42 && second == NONE; away++) {
            second = desk.place(150 + away, 60, beside);
            log.add("place", second);
        }
        log.add("ahead", desk.ahead(first, second));
        log.add("behind", desk.ahead(second, first));
        for (int s = 0; s < 8; s++) {
            desk.feeder(s, s, 9);
        }
        log.add("best", desk.best());
        log.add("run", desk.run());
        look(desk, log);
    }
}
