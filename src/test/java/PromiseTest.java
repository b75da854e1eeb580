/** For each promise of the document: ordinary inputs, the edges that it names, and wrong inputs. */
public final class PromiseTest {
    private static final int NONE = PlacingDesk.NONE;
    private static int wrong = 0;

    private static void due(String what, long got, long want) {
        if (got != want) {
            wrong++;
            System.out.println(what + " answered " + got + ", due is " + want);
        }
    }

    private static void due(String what, boolean got, boolean want) {
        due(what, got ? 1 : 0, want ? 1 : 0);
    }

    private static void duePlan(String what, PlacingDesk desk, int... want) {
        due(what + ": length", desk.count(1), want.length);
        for (int i = 0; i < want.length; i++) {
            due(what + ": plan(" + i + ")", desk.plan(i), want[i]);
        }
    }

    /** told(0) to told(7), one after the other. */
    private static void dueTold(String what, PlacingDesk desk, int... want) {
        for (int i = 0; i < want.length; i++) {
            due(what + ": told(" + i + ")", desk.told(i), want[i]);
        }
    }

    private static void dueNoPlanNoRun(String what, PlacingDesk desk) {
        due(what + ": no plan", desk.count(1), 0);
        due(what + ": no tours", desk.count(2), 0);
        due(what + ": plan(0)", desk.plan(0), NONE);
        due(what + ": no run", desk.told(0), NONE);
    }

    /** Places 0, 1, .. of kind 0 at (10, 10), (30, 10), ..; kind 0 in slot 0. */
    private static PlacingDesk deskOf(int places) {
        PlacingDesk desk = new PlacingDesk();
        for (int p = 0; p < places; p++) {
            desk.place(10 + 20 * (p % 8), 10 + 20 * (p / 8), 0);
        }
        desk.feeder(0, 0, 100);
        return desk;
    }

    /** A plan with the places in the order of their numbers, each in a tour of its own. */
    private static void planSingly(PlacingDesk desk) {
        desk.clear();
        for (int p = 0; p < desk.count(0); p++) {
            desk.then(p, true);
        }
    }

    /** A desk with two places, a plan of one tour, and a run of it. */
    private static PlacingDesk deskWithRun() {
        PlacingDesk desk = deskOf(2);
        desk.then(0, true);
        desk.then(1, false);
        due("a run of two", desk.run(), 4 + 10 + 3 + 20 + 3);
        return desk;
    }

    public static void main(String[] args) {
        newObject();
        kind();
        place();
        placeRing();
        late();
        feeder();
        machine();
        ahead();
        then();
        clear();
        good();
        goodTours();
        ticks();
        best();
        bestOfLikeOnes();
        bestWithFineOnes();
        plan();
        lay();
        layEndsRun();
        miss();
        again();
        run();
        runMisses();
        runLate();
        runStops();
        runStopsBehindMissing();
        tenPlaces();
        told();
        state();
        slot();
        count();
        System.out.println(wrong == 0 ? "all promises hold" : wrong + " answers are not as due");
        if (wrong != 0) {
            System.exit(1);
        }
    }

    private static void newObject() {
        PlacingDesk desk = new PlacingDesk();
        for (int what = 0; what < 5; what++) {
            due("new: count", desk.count(what), what == 3 ? 2 : 0);
        }
        dueNoPlanNoRun("new", desk);
        for (int s = 0; s < 8; s++) {
            due("new: slot kind", desk.slot(s, 0), NONE);
            due("new: slot parts", desk.slot(s, 1), 0);
        }
        // Size 1: at a distance of 2 there is no overlap; like heights: none is ahead.
        for (int k = 0; k < 8; k++) {
            due("new: kinds are small", desk.place(2 * k, 0, k), k);
        }
        due("new: like heights", desk.count(4), 0);
        PlacingDesk heights = new PlacingDesk();
        heights.kind(1, 1, 1, 0, false);
        heights.place(50, 50, 0);
        heights.place(53, 50, 1);
        due("new: height 1", heights.count(4), 0);
        for (int k = 0; k < 8; k++) {
            desk.feeder(k, k, 1);
            desk.then(k, k % 2 == 0);
        }
        // Nozzle 0, not fine, ticks 2 and 3: slots s, s + 1 and places 2s, 2s + 2 on the line y = 0.
        int due = 20 + 20 + 40 - 2 + 20 + 56 + 80 - 6 + 20 + 92 + 120 - 10 + 20 + 128 + 4 * 2 + 8 * 5;
        due("new: nozzle 0, not fine", desk.ticks(), due);
    }

    private static void kind() {
        PlacingDesk desk = new PlacingDesk();
        due("kind -1", desk.kind(-1, 1, 1, 0, false), false);
        due("kind 8", desk.kind(8, 1, 1, 0, false), false);
        due("kind far", desk.kind(Integer.MAX_VALUE, 1, 1, 0, false), false);
        due("kind low", desk.kind(Integer.MIN_VALUE, 1, 1, 0, false), false);
        due("size 0", desk.kind(0, 0, 1, 0, false), false);
        due("size 21", desk.kind(0, 21, 1, 0, false), false);
        due("height 0", desk.kind(0, 1, 0, 0, false), false);
        due("height 10", desk.kind(0, 1, 10, 0, false), false);
        due("nozzle -1", desk.kind(0, 1, 1, -1, false), false);
        due("nozzle 3", desk.kind(0, 1, 1, 3, false), false);
        due("least", desk.kind(7, 1, 1, 0, false), true);
        due("most", desk.kind(0, 20, 9, 2, true), true);
        due("a place of it", desk.place(50, 50, 0), 0);
        due("used", desk.kind(0, 1, 1, 0, false), false);
        due("another one", desk.kind(1, 20, 8, 0, false), true);
        due("it stayed large: overlap", desk.place(89, 50, 1), NONE);
        due("it stayed large", desk.place(90, 50, 1), 1);
        due("and high", desk.ahead(1, 0), 1);
        desk.feeder(0, 0, 9);
        desk.feeder(1, 1, 9);
        planSingly(desk);
        due("a place's kind that is ahead comes first", desk.good(), 0);
        desk.clear();
        desk.then(1, true);
        desk.then(0, true);
        // Nozzle 0, not fine; then a change, slot 0, the camera, a look.
        due("nozzle and fine", desk.ticks(), 20 + 2 + 70 + 3 + 10 + 90 + 2 + 199 + 4 + 149 + 3);
        due("kind: the plan stays", desk.kind(5, 3, 3, 1, true), true);
        due("kind: the plan is there", desk.count(1), 2);
    }

    private static void place() {
        PlacingDesk desk = new PlacingDesk();
        due("x -1", desk.place(-1, 0, 0), NONE);
        due("x 200", desk.place(200, 0, 0), NONE);
        due("y -1", desk.place(0, -1, 0), NONE);
        due("y 200", desk.place(0, 200, 0), NONE);
        due("kind -1", desk.place(0, 0, -1), NONE);
        due("kind 8", desk.place(0, 0, 8), NONE);
        due("huge", desk.place(Integer.MIN_VALUE, Integer.MAX_VALUE, 0), NONE);
        due("nothing came", desk.count(0), 0);
        due("corner", desk.place(0, 0, 0), 0);
        due("other corner", desk.place(199, 199, 0), 1);
        desk.kind(1, 3, 5, 0, false);
        due("overlap: 3 below 4", desk.place(3, 3, 1), NONE);
        due("one of both below", desk.place(3, 4, 1), 2);
        due("near", desk.ahead(0, 2), 1);
        due("the same point", desk.place(0, 0, 0), NONE);
        PlacingDesk nearness = new PlacingDesk();
        nearness.kind(1, 3, 5, 0, false);
        nearness.place(50, 50, 0);
        due("near both", nearness.place(56, 56, 1), 1);
        due("near at sum and 2", nearness.ahead(0, 1), 1);
        due("not near by x", nearness.place(43, 50, 1), 2);
        due("not ahead by x", nearness.ahead(0, 2), 0);
        due("not near by y", nearness.place(50, 43, 1), 3);
        due("not ahead by y", nearness.ahead(0, 3), 0);
        PlacingDesk higherFirst = new PlacingDesk();
        higherFirst.kind(1, 3, 5, 0, false);
        higherFirst.place(50, 50, 1);
        due("lower at sum and 2", higherFirst.place(56, 44, 0), 1);
        due("lower at sum and 3", higherFirst.place(57, 50, 0), 2);
        due("ahead at sum and 2", higherFirst.ahead(1, 0), 1);
        due("not ahead at sum and 3", higherFirst.ahead(2, 0), 0);
        PlacingDesk many = deskOf(9);
        planSingly(many);
        many.run();
        due("place refused", many.place(10, 10, 0), NONE);
        due("refused: the plan stays", many.count(1), 9);
        due("refused: the run stays", many.told(7), 1);
        due("the tenth", many.place(199, 199, 0), 9);
        dueNoPlanNoRun("place", many);
        due("an eleventh", many.place(0, 199, 0), NONE);
        due("ten", many.count(0), 10);
    }

    private static void placeRing() {
        PlacingDesk desk = new PlacingDesk();
        desk.kind(1, 1, 2, 0, false);
        desk.kind(2, 1, 3, 0, false);
        desk.place(50, 50, 2);
        desk.place(56, 50, 0);
        due("0 and 1 are apart", desk.count(4), 0);
        due("low behind high", desk.late(1, 0), true);
        due("a ring of three", desk.place(53, 50, 1), NONE);
        due("no ring away", desk.place(53, 90, 1), 2);
        due("pairs", desk.count(4), 1);
        PlacingDesk free = new PlacingDesk();
        free.kind(1, 1, 2, 0, false);
        free.kind(2, 1, 3, 0, false);
        free.place(50, 50, 2);
        free.place(56, 50, 0);
        due("high behind low", free.late(0, 1), true);
        due("between", free.place(53, 50, 1), 2);
        due("lower is ahead", free.ahead(1, 2), 1);
        due("higher is not", free.ahead(2, 1), 0);
        due("ahead of the higher", free.ahead(2, 0), 1);
        due("three pairs", free.count(4), 3);
        PlacingDesk longRing = new PlacingDesk();
        longRing.kind(1, 1, 2, 0, false);
        longRing.kind(2, 1, 3, 0, false);
        longRing.place(50, 50, 2);
        longRing.place(56, 50, 0);
        longRing.place(100, 100, 0);
        longRing.place(120, 100, 0);
        due("long: 2 behind 0", longRing.late(2, 0), true);
        due("long: 3 behind 2", longRing.late(3, 2), true);
        due("long: 1 behind 3", longRing.late(1, 3), true);
        due("a ring over others", longRing.place(53, 50, 1), NONE);
        due("long: no place", longRing.count(0), 4);
    }

    private static void late() {
        PlacingDesk desk = deskOf(4);
        due("late of itself", desk.late(0, 0), false);
        due("no p", desk.late(-1, 0), false);
        due("no q", desk.late(0, 4), false);
        due("p 4", desk.late(4, 0), false);
        due("q -1", desk.late(0, -1), false);
        due("late", desk.late(0, 1), true);
        due("told", desk.late(0, 1), false);
        due("a ring of two", desk.late(1, 0), false);
        due("late on", desk.late(1, 2), true);
        due("late on 3", desk.late(2, 3), true);
        due("a ring of four", desk.late(3, 0), false);
        due("over one", desk.late(0, 2), true);
        due("pairs", desk.count(4), 4);
        desk.best();
        desk.run();
        due("late refused", desk.late(3, 0), false);
        due("refused: plan stays", desk.count(1), 4);
        due("refused: run stays", desk.told(7), 1);
        due("late again", desk.late(0, 3), true);
        dueNoPlanNoRun("late", desk);
        PlacingDesk near = new PlacingDesk();
        near.kind(1, 1, 2, 0, false);
        near.place(50, 50, 0);
        near.place(53, 50, 1);
        due("against the heights", near.late(0, 1), false);
        due("as the heights", near.late(1, 0), true);
        due("told now", near.late(1, 0), false);
        due("one pair", near.count(4), 1);
    }

    private static void feeder() {
        PlacingDesk desk = new PlacingDesk();
        due("slot -1", desk.feeder(-1, 0, 1), false);
        due("slot 8", desk.feeder(8, 0, 1), false);
        due("slot 8 for nothing", desk.feeder(8, NONE, 1), false);
        due("kind -2", desk.feeder(0, -2, 1), false);
        due("kind 8", desk.feeder(0, 8, 1), false);
        due("parts -1", desk.feeder(0, 0, -1), false);
        due("parts 101", desk.feeder(0, 0, 101), false);
        due("nothing came", desk.slot(0, 0), NONE);
        due("no parts", desk.feeder(0, 3, 0), true);
        due("kind 3", desk.slot(0, 0), 3);
        due("0 parts", desk.slot(0, 1), 0);
        due("100 parts", desk.feeder(7, 7, 100), true);
        due("kind 7", desk.slot(7, 0), 7);
        due("parts 100", desk.slot(7, 1), 100);
        due("refused", desk.feeder(7, 8, 5), false);
        due("it stays", desk.slot(7, 1), 100);
        due("over", desk.feeder(7, 1, 4), true);
        due("kind 1", desk.slot(7, 0), 1);
        due("nothing", desk.feeder(7, NONE, -999), true);
        due("no kind", desk.slot(7, 0), NONE);
        due("no parts left", desk.slot(7, 1), 0);
        PlacingDesk runs = deskWithRun();
        due("feeder", runs.feeder(0, 0, 50), true);
        due("a run stays", runs.told(3), 2);
        due("a plan stays", runs.count(1), 2);
        due("nothing there", runs.feeder(0, NONE, 0), true);
        due("a run stays still", runs.told(3), 2);
        due("not good now", runs.good(), 0);
    }

    private static void machine() {
        PlacingDesk desk = deskWithRun();
        due("nozzles 0", desk.machine(0, 1, 1, 1, 1), false);
        due("nozzles 5", desk.machine(5, 1, 1, 1, 1), false);
        due("take 0", desk.machine(1, 0, 1, 1, 1), false);
        due("take 21", desk.machine(1, 21, 1, 1, 1), false);
        due("set 0", desk.machine(1, 1, 0, 1, 1), false);
        due("set 21", desk.machine(1, 1, 21, 1, 1), false);
        due("look -1", desk.machine(1, 1, 1, -1, 1), false);
        due("look 21", desk.machine(1, 1, 1, 21, 1), false);
        due("change -1", desk.machine(1, 1, 1, 1, -1), false);
        due("change 51", desk.machine(1, 1, 1, 1, 51), false);
        due("nothing changed", desk.count(3), 2);
        due("the plan stays", desk.ticks(), 40);
        due("the run stays", desk.told(7), 1);
        due("least", desk.machine(1, 1, 1, 0, 0), true);
        dueNoPlanNoRun("machine", desk);
        due("one nozzle", desk.count(3), 1);
        desk.then(0, true);
        desk.then(1, false);
        due("too many for one nozzle", desk.good(), 0);
        due("most", desk.machine(4, 20, 20, 20, 50), true);
        due("four nozzles", desk.count(3), 4);
        desk.then(0, true);
        desk.then(1, false);
        due("new ticks", desk.ticks(), 40 + 10 + 20 + 20 + 20);
        PlacingDesk fine = new PlacingDesk();
        fine.kind(0, 1, 1, 2, true);
        fine.place(100, 0, 0);
        fine.feeder(1, 0, 1);
        fine.then(0, true);
        due("first ticks", fine.ticks(), 10 + 20 + 2 + 179 + 4 + 99 + 3);
        fine.machine(1, 5, 6, 7, 8);
        fine.then(0, true);
        due("told ticks", fine.ticks(), 8 + 20 + 5 + 179 + 7 + 99 + 6);
    }

    private static void ahead() {
        PlacingDesk desk = new PlacingDesk();
        due("no places", desk.ahead(0, 1), NONE);
        desk.kind(1, 2, 2, 0, false);
        desk.place(50, 50, 0);
        desk.place(55, 55, 1);
        desk.place(80, 50, 0);
        due("lower", desk.ahead(0, 1), 1);
        due("higher", desk.ahead(1, 0), 0);
        due("far", desk.ahead(2, 1), 0);
        due("far back", desk.ahead(1, 2), 0);
        due("itself", desk.ahead(1, 1), NONE);
        due("p -1", desk.ahead(-1, 1), NONE);
        due("q 3", desk.ahead(1, 3), NONE);
        due("p 3", desk.ahead(3, 1), NONE);
        due("q -1", desk.ahead(1, -1), NONE);
        due("late", desk.late(2, 1), true);
        due("told", desk.ahead(1, 2), 1);
        due("told back", desk.ahead(2, 1), 0);
        due("not over another one", desk.ahead(0, 2), 0);
    }

    private static void then() {
        PlacingDesk desk = deskOf(3);
        due("p -1", desk.then(-1, true), NONE);
        due("p 3", desk.then(3, true), NONE);
        due("first", desk.then(2, false), 1);
        due("in it", desk.then(2, true), NONE);
        due("second", desk.then(0, false), 2);
        due("third", desk.then(1, true), 3);
        duePlan("then", desk, 18, 0, 17);
        due("run", desk.run() > 0, true);
        due("in it still", desk.then(1, true), NONE);
        due("refused: the run stays", desk.told(7), 1);
        PlacingDesk more = deskOf(2);
        more.then(0, true);
        more.feeder(0, 0, 0);
        due("one is not all", more.run(), NONE);
        more.then(1, true);
        due("it stops", more.run(), 0);
        due("for 0", more.told(5), 0);
        more.clear();
        due("then anew", more.then(1, false), 1);
        due("no run", more.told(5), NONE);
    }

    private static void clear() {
        PlacingDesk desk = deskWithRun();
        desk.clear();
        dueNoPlanNoRun("clear", desk);
        due("clear: places stay", desk.count(0), 2);
        due("clear: feeders stay", desk.slot(0, 1), 98);
        due("clear: it comes again", desk.then(1, false), 1);
        duePlan("clear", desk, 17);
        desk.clear();
        desk.clear();
        dueNoPlanNoRun("clear twice", desk);
    }

    private static void good() {
        PlacingDesk desk = new PlacingDesk();
        due("nothing is good", desk.good(), 1);
        desk.kind(1, 1, 2, 0, false);
        desk.place(50, 50, 1);
        due("a place not in it", desk.good(), 0);
        desk.place(53, 50, 0);
        desk.feeder(3, 1, 0);
        desk.feeder(4, 0, 0);
        desk.then(1, true);
        due("one not in it", desk.good(), 0);
        desk.then(0, true);
        due("good, without parts", desk.good(), 1);
        desk.feeder(3, NONE, 0);
        due("no feeder", desk.good(), 0);
        desk.feeder(0, 1, 9);
        due("a feeder elsewhere", desk.good(), 1);
        desk.clear();
        desk.then(0, true);
        desk.then(1, true);
        due("the higher one first", desk.good(), 0);
    }

    private static void goodTours() {
        PlacingDesk desk = deskOf(3);
        desk.then(0, true);
        desk.then(1, false);
        desk.then(2, false);
        due("three for two nozzles", desk.good(), 0);
        desk.machine(3, 2, 3, 4, 10);
        desk.then(0, true);
        desk.then(1, false);
        desk.then(2, false);
        due("three for three", desk.good(), 1);
        PlacingDesk full = deskOf(4);
        full.machine(3, 2, 3, 4, 10);
        full.then(3, true);
        full.then(0, true);
        full.then(1, false);
        full.then(2, false);
        due("one, then three for three", full.good(), 1);
        PlacingDesk mixed = new PlacingDesk();
        mixed.kind(1, 1, 1, 2, false);
        mixed.place(10, 10, 0);
        mixed.place(20, 10, 1);
        mixed.feeder(0, 0, 1);
        mixed.feeder(1, 1, 1);
        mixed.then(0, true);
        mixed.then(1, false);
        due("two nozzles in a tour", mixed.good(), 0);
        planSingly(mixed);
        due("a tour for each", mixed.good(), 1);
        PlacingDesk zeroAhead = deskOf(2);
        zeroAhead.late(1, 0);
        zeroAhead.then(1, true);
        zeroAhead.then(0, true);
        due("place 0 must come first", zeroAhead.good(), 0);
        PlacingDesk order = deskOf(2);
        order.late(0, 1);
        order.then(0, true);
        order.then(1, false);
        due("late one first in a tour", order.good(), 0);
        order.clear();
        order.then(1, true);
        order.then(0, false);
        due("late one second in a tour", order.good(), 1);
    }

    private static void ticks() {
        PlacingDesk desk = new PlacingDesk();
        due("nothing", desk.ticks(), 0);
        desk.kind(1, 1, 1, 1, true);
        desk.kind(2, 1, 1, 1, false);
        desk.place(100, 40, 1);
        desk.place(10, 150, 2);
        desk.place(60, 30, 2);
        desk.place(150, 120, 0);
        desk.feeder(2, 2, 0);
        desk.feeder(5, 1, 0);
        desk.feeder(6, 1, 50);
        desk.feeder(1, 0, 0);
        desk.machine(3, 2, 3, 4, 10);
        due("not good", desk.ticks(), NONE);
        desk.then(1, true);
        desk.then(0, false);
        desk.then(2, false);
        desk.then(3, true);
        int first = 10 + 40 + 2 * 2 + 60 + 2 + 99 + 4 + 189 + 3 + 110 + 3 + 40 + 3;
        int second = 10 + 40 + 2 + 130 + 3;
        due("slots from low to high, once each", desk.ticks(), first + second);
        due("ticks change nothing", desk.ticks(), first + second);
        due("no run by it", desk.told(0), NONE);
        desk.feeder(0, 2, 7);
        due("the lowest slot of a kind", desk.ticks(), first + 20 - 20 + second);
        desk.feeder(0, NONE, 7);
        PlacingDesk camera = new PlacingDesk();
        camera.kind(0, 1, 1, 0, true);
        camera.place(199, 100, 0);
        camera.feeder(0, 0, 9);
        camera.then(0, true);
        due("from the camera up", camera.ticks(), 2 + 199 + 4 + 100 + 3);
        due("in a run too", camera.run(), 2 + 199 + 4 + 100 + 3);
        desk.clear();
        desk.then(3, true);
        desk.then(1, true);
        desk.then(2, false);
        desk.then(0, true);
        // Nozzle 0 at first: no change; then one; then the same nozzle: none.
        int singly = 20 + 2 + 130 + 3 + 10 + 120 + 4 + 150 + 3 + 120 + 3 + 40 + 2 + 99 + 4 + 99 + 3;
        due("change only for another nozzle", desk.ticks(), singly);
    }

    private static void best() {
        PlacingDesk desk = new PlacingDesk();
        due("no places", desk.best(), NONE);
        PlacingDesk eight = deskOf(8);
        planSingly(eight);
        due("eight", eight.best(), NONE);
        due("eight: the plan stays", eight.count(1), 8);
        PlacingDesk seven = deskOf(7);
        due("seven", seven.best() > 0, true);
        due("seven are in it", seven.count(1), 7);
        due("it is good", seven.good(), 1);
        due("its ticks", seven.best(), seven.ticks());
        seven.machine(1, 2, 3, 4, 10);
        // To 10 and back, to 30 and back, ..; the farthest one comes last.
        due("seven tours", seven.best(), 2 * (10 + 30 + 50 + 70 + 90 + 110) + 130 + 7 * 5);
        duePlan("seven tours", seven, 16, 17, 18, 19, 20, 21, 22);
        PlacingDesk five = deskOf(5);
        five.machine(4, 2, 3, 4, 10);
        due("four in a tour", five.best(), 10 + 10 + 90 + 5 * 5);
        duePlan("four in a tour", five, 16, 17, 2, 3, 4);
        PlacingDesk runs = deskWithRun();
        due("the same plan", runs.best(), 40);
        due("the run is gone", runs.told(0), NONE);
        runs.run();
        runs.feeder(0, 1, 3);
        due("none is good", runs.best(), NONE);
        duePlan("all stays", runs, 16, 1);
        due("the run too", runs.told(3), 2);
        PlacingDesk order = deskOf(2);
        order.late(0, 1);
        due("behind what is ahead", order.best(), 4 + 30 + 3 + 20 + 3);
        duePlan("late", order, 17, 0);
        PlacingDesk mixed = new PlacingDesk();
        mixed.kind(1, 1, 1, 1, false);
        mixed.place(0, 0, 1);
        mixed.place(10, 0, 0);
        mixed.place(20, 0, 1);
        mixed.feeder(0, 0, 0);
        mixed.feeder(1, 1, 0);
        // Nozzle 0 first: 2 + 10 + 3; change, to slot 1, two takes, on to 20 and 0.
        due("nozzles", mixed.best(), 15 + 10 + 10 + 4 + 0 + 3 + 20 + 3);
        duePlan("nozzles", mixed, 17, 18, 0);
    }

    private static void bestOfLikeOnes() {
        PlacingDesk square = new PlacingDesk();
        square.place(10, 20, 0);
        square.place(20, 20, 0);
        square.feeder(0, 0, 1);
        due("like: 0, 1 and 1, 0", square.best(), 4 + 20 + 3 + 10 + 3);
        duePlan("the lesser first", square, 16, 1);
        // A change of nothing, and all on the slot's own point but one: tours are free.
        PlacingDesk free = new PlacingDesk();
        free.machine(4, 1, 1, 0, 0);
        free.place(0, 0, 0);
        free.place(0, 10, 0);
        free.feeder(0, 0, 1);
        due("like: one tour and two", free.best(), 14);
        duePlan("going on is less than beginning", free, 16, 1);
        PlacingDesk turned = new PlacingDesk();
        turned.machine(4, 1, 1, 0, 0);
        turned.place(0, 10, 0);
        turned.place(0, 0, 0);
        turned.feeder(0, 0, 1);
        due("turned", turned.best(), 14);
        duePlan("fewest ticks first", turned, 17, 0);
    }

    private static void bestWithFineOnes() {
        PlacingDesk one = new PlacingDesk();
        one.kind(0, 1, 1, 2, true);
        one.place(199, 100, 0);
        one.feeder(1, 0, 0);
        due("one place", one.best(), 10 + 20 + 2 + 179 + 4 + 100 + 3);
        duePlan("one place", one, 16);
        PlacingDesk two = new PlacingDesk();
        two.kind(0, 1, 1, 0, true);
        two.kind(1, 1, 1, 0, false);
        two.place(190, 50, 0);
        two.place(20, 100, 1);
        two.feeder(1, 0, 0);
        two.feeder(0, 1, 0);
        // Without the camera first: 2 + 100 + 3; then 100 + 2 + 179 + 4 + 50 + 3 from (20, 100).
        // Both in one tour: 2 + 20 + 2 + 179 + 4 + 50 + 3 + 170 + 3. Fine one first: more.
        due("fine and not", two.best(), 433);
        duePlan("fine and not", two, 16, 1);
        due("as reckoned", two.ticks(), 433);
        two.machine(1, 2, 3, 4, 10);
        due("singly", two.best(), 105 + 338);
        duePlan("singly", two, 17, 16);
        PlacingDesk both = new PlacingDesk();
        both.kind(0, 1, 1, 0, true);
        both.place(190, 50, 0);
        both.place(190, 90, 0);
        both.feeder(0, 0, 0);
        due("two looks", both.best(), 4 + 199 + 8 + 50 + 3 + 40 + 3);
    }

    private static void plan() {
        PlacingDesk desk = deskOf(3);
        due("empty", desk.plan(0), NONE);
        desk.then(1, true);
        desk.then(2, false);
        due("-1", desk.plan(-1), NONE);
        due("0", desk.plan(0), 17);
        due("1", desk.plan(1), 2);
        due("2", desk.plan(2), NONE);
        due("10", desk.plan(10), NONE);
        due("most", desk.plan(Integer.MAX_VALUE), NONE);
        due("least", desk.plan(Integer.MIN_VALUE), NONE);
        desk.then(0, true);
        due("begins", desk.plan(2), 16);
        PlacingDesk ten = deskOf(10);
        planSingly(ten);
        due("ten", ten.plan(9), 25);
        due("behind ten", ten.plan(10), NONE);
    }

    private static void lay() {
        PlacingDesk desk = deskOf(1);
        due("not good", desk.lay(), NONE);
        desk.feeder(0, NONE, 0);
        desk.feeder(4, 0, 3);
        desk.feeder(7, 1, 9);
        desk.then(0, true);
        due("before", desk.ticks(), 80 + 2 + 70 + 3);
        due("one exchange", desk.lay(), 1);
        due("after", desk.ticks(), 0 + 2 + 10 + 3);
        due("slot 0", desk.slot(0, 0), 0);
        due("with its parts", desk.slot(0, 1), 3);
        due("slot 4", desk.slot(4, 0), NONE);
        due("slot 4 parts", desk.slot(4, 1), 0);
        due("slot 7", desk.slot(7, 0), 1);
        due("no more", desk.lay(), 0);
        PlacingDesk likes = new PlacingDesk();
        likes.place(70, 0, 0);
        likes.feeder(6, 0, 3);
        likes.feeder(1, 2, 8);
        likes.then(0, true);
        // Slots 0 to 3 are on the way: the lowest is taken, what is in slot 1 stays.
        due("likes", likes.lay(), 1);
        due("the lower first one", likes.slot(0, 0), 0);
        due("not the other", likes.slot(1, 0), 2);
        PlacingDesk neighbours = new PlacingDesk();
        neighbours.place(0, 0, 0);
        neighbours.feeder(1, 0, 6);
        neighbours.then(0, true);
        due("neighbours", neighbours.lay(), 1);
        due("neighbours exchanged", neighbours.slot(0, 1), 6);
        PlacingDesk twice = new PlacingDesk();
        twice.place(0, 0, 0);
        twice.place(100, 0, 1);
        twice.feeder(7, 0, 1);
        twice.feeder(6, 1, 1);
        planSingly(twice);
        due("twice before", twice.ticks(), 140 + 2 + 140 + 3 + 120 + 2 + 20 + 3);
        due("two exchanges", twice.lay(), 2);
        due("twice after", twice.ticks(), 0 + 2 + 0 + 3 + 100 + 2 + 3);
        due("kind 0", twice.slot(0, 0), 0);
        due("kind 1", twice.slot(1, 0), 1);
    }

    private static void layEndsRun() {
        PlacingDesk runs = deskWithRun();
        runs.feeder(0, NONE, 0);
        due("refused", runs.lay(), NONE);
        due("refused: the run stays", runs.told(3), 2);
        due("refused: its states too", runs.state(0), 1);
        runs.feeder(3, 0, 4);
        due("one to make", runs.lay(), 1);
        due("the run is gone", runs.told(3), NONE);
        due("its states too", runs.state(0), NONE);
        due("the plan stays", runs.count(1), 2);
        PlacingDesk none = deskWithRun();
        due("none to make", none.lay(), 0);
        due("none made: the run is gone", none.told(3), NONE);
        due("none made: its states too", none.state(0), NONE);
        due("none made: the plan stays", none.count(1), 2);
        due("no run, none to make", none.lay(), 0);
        due("no run: there is none", none.told(0), NONE);
        PlacingDesk empty = new PlacingDesk();
        due("a run of nothing", empty.run(), 0);
        due("nothing to lay", empty.lay(), 0);
        due("a run of nothing is gone", empty.told(0), NONE);
        PlacingDesk stopped = deskOf(2);
        planSingly(stopped);
        stopped.feeder(0, 0, 1);
        due("it stops behind one", stopped.run(), 2 + 10 + 3);
        due("for the other", stopped.told(5), 1);
        due("stopped: none to make", stopped.lay(), 0);
        due("stopped: the run is gone", stopped.told(5), NONE);
        stopped.feeder(0, 0, 9);
        due("it begins anew", stopped.run(), 2 + 10 + 3 + 10 + 2 + 30 + 3);
        due("with both", stopped.told(1), 2);
        due("parts of both", stopped.slot(0, 1), 7);
    }

    private static void miss() {
        PlacingDesk desk = deskWithRun();
        due("0", desk.miss(0), false);
        due("-1", desk.miss(-1), false);
        due("201", desk.miss(201), false);
        due("most", desk.miss(Integer.MAX_VALUE), false);
        due("200", desk.miss(200), true);
        due("told", desk.miss(200), false);
        due("1", desk.miss(1), true);
        due("told too", desk.miss(1), false);
        due("the run stays", desk.told(2), 0);
        due("it misses", desk.run(), 42);
        due("a miss", desk.told(2), 1);
        due("a take more", desk.told(1), 3);
        due("in each run", desk.run(), 42);
        due("a miss again", desk.told(2), 1);
    }

    private static void again() {
        PlacingDesk desk = deskOf(1);
        desk.then(0, true);
        for (int n = 1; n <= 4; n++) {
            desk.miss(n);
        }
        due("-1", desk.again(-1), false);
        due("4", desk.again(4), false);
        due("once at first", desk.run(), 4);
        due("missing", desk.state(0), 2);
        for (int n = 0; n <= 3; n++) {
            due("again " + n, desk.again(n), true);
            due("the run stays", desk.told(7), 1);
            due("takes of again " + n, desk.run(), 2 * (n + 1));
            due("takes", desk.told(1), n + 1);
            due("misses", desk.told(2), n + 1);
        }
        due("lost parts", desk.slot(0, 1), 100 - 2 - 1 - 2 - 3 - 4);
        due("refused", desk.again(4), false);
        due("three still", desk.run(), 8);
        PlacingDesk lucky = deskOf(1);
        lucky.then(0, true);
        lucky.miss(1);
        lucky.miss(2);
        lucky.miss(3);
        lucky.again(3);
        due("the fourth has it", lucky.run(), 8 + 10 + 3);
    }

    private static void run() {
        PlacingDesk nothing = new PlacingDesk();
        due("an empty plan", nothing.run(), 0);
        dueTold("empty", nothing, 0, 0, 0, 0, 0, NONE, 0, 1);
        PlacingDesk desk = deskOf(3);
        due("not good", desk.run(), NONE);
        due("no run", desk.told(0), NONE);
        desk.then(0, true);
        desk.then(1, false);
        desk.then(2, true);
        due("as its ticks", desk.run(), desk.ticks());
        dueTold("three", desk, desk.ticks(), 3, 0, 3, 0, NONE, 2, 1);
        due("parts", desk.slot(0, 1), 97);
        due("anew", desk.run(), desk.ticks());
        due("parts again", desk.slot(0, 1), 94);
        due("takes anew", desk.told(1), 3);
        // Parts run out in slot 1, the rest comes from slot 4: ticks() does not know that.
        PlacingDesk reels = deskOf(2);
        reels.feeder(0, NONE, 0);
        reels.feeder(1, 0, 1);
        reels.feeder(4, 0, 5);
        reels.then(0, true);
        reels.then(1, false);
        due("ticks", reels.ticks(), 20 + 4 + 10 + 3 + 20 + 3);
        due("two slots", reels.run(), 20 + 2 + 60 + 2 + 70 + 3 + 20 + 3);
        due("slot 1", reels.slot(1, 1), 0);
        due("slot 4", reels.slot(4, 1), 4);
        due("passes the empty one", reels.run(), 80 + 4 + 70 + 3 + 20 + 3);
    }

    private static void runMisses() {
        // Fine parts: only those that are held are looked at; the second place's slot runs dry.
        PlacingDesk desk = new PlacingDesk();
        desk.kind(1, 1, 1, 1, true);
        desk.place(100, 0, 0);
        desk.place(120, 0, 1);
        desk.place(140, 0, 1);
        desk.feeder(0, 0, 9);
        desk.feeder(1, 1, 2);
        desk.then(0, true);
        desk.then(1, true);
        desk.then(2, false);
        desk.miss(2);
        // Takes 2 (misses) and 3 for place 1; then slot 1 has no part any more for place 2.
        due("run", desk.run(), 2 + 100 + 3 + 10 + 80 + 4 + 179 + 4 + 79 + 3);
        dueTold("dry", desk, 464, 3, 1, 2, 1, NONE, 2, 1);
        due("set", desk.state(1), 1);
        due("missing", desk.state(2), 2);
        desk.feeder(1, 1, 9);
        desk.miss(3);
        desk.miss(4);
        desk.miss(5);
        // All takes for both miss: no camera, no set; the head stays at the slot.
        due("all miss", desk.run(), 2 + 100 + 3 + 10 + 80 + 8);
        dueTold("all miss", desk, 203, 5, 4, 1, 2, NONE, 2, 1);
        // The first one misses alone: one look.
        desk.again(0);
        PlacingDesk one = new PlacingDesk();
        one.kind(1, 1, 1, 0, true);
        one.place(120, 0, 1);
        one.place(140, 0, 1);
        one.feeder(1, 1, 9);
        one.then(0, true);
        one.then(1, false);
        one.again(0);
        one.miss(1);
        due("one look", one.run(), 20 + 4 + 179 + 4 + 59 + 3);
        due("one missing", one.state(0), 2);
        due("one set", one.state(1), 1);
        // Takes go slot by slot: take 1 is for place 1, whose slot is lower.
        PlacingDesk byslot = new PlacingDesk();
        byslot.place(10, 0, 0);
        byslot.place(20, 0, 1);
        byslot.feeder(0, 1, 5);
        byslot.feeder(1, 0, 5);
        byslot.then(0, true);
        byslot.then(1, false);
        byslot.again(0);
        byslot.miss(1);
        due("by slot", byslot.run(), 2 + 20 + 2 + 10 + 3);
        due("1 misses", byslot.state(1), 2);
        due("0 is set", byslot.state(0), 1);
    }

    private static void runLate() {
        // 1 late behind 0, 2 late behind 1; 3 is late behind 0 too, but in the same tour as 0.
        PlacingDesk desk = deskOf(4);
        desk.machine(3, 2, 3, 4, 10);
        desk.late(1, 0);
        desk.late(2, 1);
        desk.late(3, 0);
        desk.again(0);
        desk.miss(1);
        desk.then(0, true);
        desk.then(3, false);
        desk.then(1, true);
        desk.then(2, false);
        due("good", desk.good(), 1);
        due("run", desk.run(), 2 + 2);
        dueTold("late", desk, 4, 2, 1, 0, 4, NONE, 2, 1);
        due("the part of 3 is lost", desk.slot(0, 1), 98);
        for (int p = 0; p < 4; p++) {
            due("missing " + p, desk.state(p), 2);
        }
        // A tour in which one is wanted and one is not.
        PlacingDesk some = deskOf(3);
        some.late(1, 0);
        some.again(0);
        some.miss(1);
        some.then(0, true);
        some.then(1, true);
        some.then(2, false);
        due("some run", some.run(), 2 + 2 + 50 + 3);
        due("some takes", some.told(1), 2);
        due("0", some.state(0), 2);
        due("1", some.state(1), 2);
        due("2", some.state(2), 1);
        // Ahead by height alone is not late: the higher one is set though the lower one is missing.
        PlacingDesk near = new PlacingDesk();
        near.kind(1, 1, 2, 0, false);
        near.place(50, 50, 0);
        near.place(53, 50, 1);
        near.feeder(0, 0, 9);
        near.feeder(1, 1, 9);
        near.again(0);
        near.miss(1);
        near.then(0, true);
        near.then(1, true);
        due("near run", near.run(), 2 + 20 + 2 + 50 + 3);
        due("lower missing", near.state(0), 2);
        due("higher set", near.state(1), 1);
        // A nozzle is not changed for a tour in which none is wanted.
        PlacingDesk change = new PlacingDesk();
        change.kind(1, 1, 1, 1, true);
        change.place(10, 10, 0);
        change.place(30, 10, 1);
        change.feeder(0, 0, 9);
        change.feeder(1, 1, 9);
        change.late(1, 0);
        change.again(0);
        change.miss(1);
        planSingly(change);
        due("no change", change.run(), 2);
        due("both tours", change.told(6), 2);
        PlacingDesk between = new PlacingDesk();
        between.kind(1, 1, 1, 1, true);
        between.place(10, 10, 0);
        between.place(30, 10, 1);
        between.place(50, 10, 0);
        between.feeder(0, 0, 9);
        between.feeder(1, 1, 9);
        between.late(1, 0);
        between.again(0);
        between.miss(1);
        planSingly(between);
        due("no change in between", between.run(), 2 + 2 + 50 + 3);
        due("three tours", between.told(6), 3);
    }

    private static void runStops() {
        PlacingDesk desk = deskOf(4);
        desk.feeder(0, 0, 3);
        desk.then(0, true);
        desk.then(1, false);
        desk.then(2, true);
        desk.then(3, false);
        int first = 4 + 10 + 3 + 20 + 3;
        int second = 30 + 4 + 50 + 3 + 20 + 3;
        due("it stops", desk.run(), first);
        dueTold("stopped", desk, first, 2, 0, 2, 0, 3, 1, 0);
        due("nothing taken", desk.slot(0, 1), 1);
        due("2 not reached", desk.state(2), 0);
        due("it stops again", desk.run(), first);
        due("for 3 again", desk.told(5), 3);
        desk.feeder(0, 0, 0);
        due("and again", desk.run(), first);
        due("for 2 now", desk.told(5), 2);
        desk.feeder(0, 5, 9);
        due("not good", desk.run(), NONE);
        dueTold("not good: the run stays", desk, first, 2, 0, 2, 0, 2, 1, 0);
        desk.miss(3);
        desk.feeder(0, 0, 9);
        due("it goes on", desk.run(), first + second + 2);
        dueTold("gone on", desk, first + second + 2, 5, 1, 4, 0, NONE, 2, 1);
        due("parts", desk.slot(0, 1), 6);
        desk.clear();
        planSingly(desk);
        due("a new plan from its beginning", desk.run() > 0, true);
        due("four tours", desk.told(6), 4);
        desk.feeder(0, 0, 0);
        due("anew, and it stops at once", desk.run(), 0);
        dueTold("stopped at once", desk, 0, 0, 0, 0, 0, 0, 0, 0);
        // What is late behind a missing one is not missing before its own tour comes.
        PlacingDesk later = deskOf(3);
        later.late(2, 0);
        later.again(0);
        later.miss(1);
        later.feeder(0, 0, 1);
        planSingly(later);
        due("stops in the second tour", later.run(), 2);
        due("the third is not reached", later.state(2), 0);
        due("one missing", later.told(4), 1);
    }

    private static void runStopsBehindMissing() {
        PlacingDesk desk = deskOf(3);
        desk.late(1, 0);
        desk.again(0);
        desk.miss(1);
        desk.feeder(0, 0, 1);
        desk.then(0, true);
        desk.then(1, true);
        desk.then(2, false);
        due("it stops ahead of (2)", desk.run(), 2);
        dueTold("behind (1)", desk, 2, 1, 1, 0, 2, 2, 1, 0);
        due("1 is missing already", desk.state(1), 2);
        due("2 is not reached", desk.state(2), 0);
        desk.feeder(0, 0, 1);
        due("on", desk.run(), 2 + 2 + 50 + 3);
        dueTold("at its end", desk, 57, 2, 1, 1, 2, NONE, 2, 1);
    }

    private static void tenPlaces() {
        PlacingDesk desk = deskOf(10);
        for (int p = 1; p < 10; p++) {
            due("a chain", desk.late(p, p - 1), true);
        }
        due("a ring of ten", desk.late(0, 9), false);
        due("nine pairs", desk.count(4), 9);
        for (int p = 0; p < 10; p++) {
            due("then", desk.then(p, p % 2 == 0), p + 1);
        }
        due("eleventh", desk.then(10, true), NONE);
        due("good", desk.good(), 1);
        due("best", desk.best(), NONE);
        due("five tours", desk.count(2), 5);
        due("a run", desk.run(), desk.ticks());
        due("ten set", desk.told(3), 10);
        desk.again(3);
        for (int n = 1; n <= 200; n++) {
            desk.miss(n);
        }
        due("four takes, and nothing is wanted behind", desk.run(), 4 * 2 + 4 * 2);
        due("eight takes", desk.told(1), 8);
        due("ten missing", desk.told(4), 10);
        PlacingDesk loose = deskOf(10);
        planSingly(loose);
        loose.again(3);
        for (int n = 1; n <= 200; n++) {
            loose.miss(n);
        }
        due("forty takes", loose.run(), 80);
        due("forty misses", loose.told(2), 40);
        due("parts left", loose.slot(0, 1), 60);
    }

    private static void told() {
        PlacingDesk desk = deskOf(2);
        for (int what = -1; what <= 8; what++) {
            due("told without a run", desk.told(what), NONE);
        }
        PlacingDesk runs = deskWithRun();
        dueTold("told", runs, 40, 2, 0, 2, 0, NONE, 1, 1, NONE);
        due("-1", runs.told(-1), NONE);
        due("most", runs.told(Integer.MAX_VALUE), NONE);
        due("least", runs.told(Integer.MIN_VALUE), NONE);
    }

    private static void state() {
        PlacingDesk desk = deskWithRun();
        due("0", desk.state(0), 1);
        due("1", desk.state(1), 1);
        due("2", desk.state(2), NONE);
        due("-1", desk.state(-1), NONE);
        due("32", desk.state(32), NONE);
        desk.clear();
        due("no run", desk.state(0), NONE);
        PlacingDesk stopped = deskOf(1);
        stopped.feeder(0, 0, 0);
        stopped.then(0, true);
        stopped.run();
        due("not reached", stopped.state(0), 0);
    }

    private static void slot() {
        PlacingDesk desk = deskWithRun();
        due("kind", desk.slot(0, 0), 0);
        due("parts", desk.slot(0, 1), 98);
        due("what 2", desk.slot(0, 2), NONE);
        due("what -1", desk.slot(0, -1), NONE);
        due("slot 8", desk.slot(8, 1), NONE);
        due("slot -1", desk.slot(-1, 1), NONE);
        due("empty kind", desk.slot(7, 0), NONE);
        due("empty parts", desk.slot(7, 1), 0);
    }

    private static void count() {
        PlacingDesk desk = deskOf(5);
        desk.late(1, 0);
        desk.late(2, 0);
        desk.late(2, 1);
        desk.then(4, false);
        desk.then(3, false);
        desk.then(0, true);
        due("places", desk.count(0), 5);
        due("plan", desk.count(1), 3);
        due("tours", desk.count(2), 2);
        due("nozzles", desk.count(3), 2);
        due("pairs", desk.count(4), 3);
        due("5", desk.count(5), NONE);
        due("-1", desk.count(-1), NONE);
        due("most", desk.count(Integer.MAX_VALUE), NONE);
    }
}
