import java.util.LinkedHashMap;
import java.util.Map;
import java.util.function.Consumer;

/** Desks to begin a test with. */
final class Desks {
    static final int NONE = PlacingDesk.NONE;

    private Desks() {
    }

    /** Places 0, 1, .. of kind 0 at (10, 10), (30, 10), ..; kind 0 in slot 0. */
    static PlacingDesk of(int places) {
        PlacingDesk desk = new PlacingDesk();
        for (int p = 0; p < places; p++) {
            desk.place(10 + 20 * (p % 8), 10 + 20 * (p / 8), 0);
        }
        desk.feeder(0, 0, 100);
        return desk;
    }

    /** A plan of these codes, each a place and 16 more if a tour begins with it. */
    static void plan(PlacingDesk desk, int... codes) {
        desk.clear();
        for (int code : codes) {
            desk.then(code % 16, code >= 16);
        }
    }

    /** A plan with all places in the order of their numbers, each in a tour of its own. */
    static void planSingly(PlacingDesk desk) {
        desk.clear();
        for (int p = 0; p < desk.count(0); p++) {
            desk.then(p, true);
        }
    }

    /** Two places, a plan of one tour, and a run of it that came to its end with 40 ticks. */
    static PlacingDesk withRun() {
        PlacingDesk desk = of(2);
        plan(desk, 16, 1);
        desk.run();
        return desk;
    }

    /** One place of a kind, in its own tour, with a feeder of nine parts in a slot. */
    static PlacingDesk ofOne(int x, int y, int kind, int slot) {
        PlacingDesk desk = new PlacingDesk();
        desk.place(x, y, kind);
        desk.feeder(slot, kind, 9);
        desk.then(0, true);
        return desk;
    }

    /** Places of kind 0 (nozzle 0), 1 (nozzle 1, fine) and 2 (nozzle 2); much told, no plan. */
    static void tellMuch(PlacingDesk desk) {
        desk.kind(1, 3, 5, 1, true);
        desk.kind(2, 2, 3, 2, false);
        desk.kind(3, 4, 2, 0, true);
        desk.kind(4, 1, 7, 0, false);
        desk.machine(3, 4, 5, 6, 7);
        desk.place(20, 20, 0);
        desk.place(25, 20, 1);
        desk.place(60, 60, 2);
        desk.place(64, 60, 2);
        desk.place(100, 20, 0);
        desk.late(4, 0);
        desk.late(3, 2);
        desk.feeder(1, 0, 9);
        desk.feeder(3, 1, 5);
        desk.feeder(4, 2, 5);
        desk.feeder(6, 1, 2);
        desk.miss(2);
        desk.again(2);
    }

    /** The plan is begun, and not yet whole. */
    static void tellPartOfPlan(PlacingDesk desk) {
        tellMuch(desk);
        plan(desk, 16, 4);
    }

    /** The plan has all places, but not behind what is ahead of them. */
    static void tellBadPlan(PlacingDesk desk) {
        tellMuch(desk);
        plan(desk, 20, 0, 17, 18, 3);
    }

    static void tellGoodPlan(PlacingDesk desk) {
        tellMuch(desk);
        plan(desk, 16, 4, 17, 18, 3);
    }

    /** A run that has come to its end; its second take missed. */
    static void runToEnd(PlacingDesk desk) {
        tellGoodPlan(desk);
        desk.run();
    }

    /** A run that has stopped for place 3: places 0 and 4 are missing, 1 is set. */
    static void runTillStop(PlacingDesk desk) {
        tellGoodPlan(desk);
        desk.again(0);
        desk.miss(1);
        desk.feeder(4, 2, 1);
        desk.run();
    }

    /** Ten places, each in a tour of its own, and a run that has come to its end. */
    static void fillBoard(PlacingDesk desk) {
        tellMuch(desk);
        desk.place(150, 150, 0);
        desk.place(150, 100, 0);
        desk.place(100, 150, 1);
        desk.place(20, 150, 0);
        desk.place(20, 100, 2);
        planSingly(desk);
        desk.run();
    }

    /** The states of a desk in which a call that is refused in all of them is tried. */
    static Map<String, Consumer<PlacingDesk>> states() {
        Map<String, Consumer<PlacingDesk>> states = new LinkedHashMap<>();
        states.put("a new desk", desk -> { });
        states.put("a part of a plan", Desks::tellPartOfPlan);
        states.put("a bad plan", Desks::tellBadPlan);
        states.put("a run at its end", Desks::runToEnd);
        states.put("a run that stopped", Desks::runTillStop);
        states.put("a full board", Desks::fillBoard);
        return states;
    }
}
