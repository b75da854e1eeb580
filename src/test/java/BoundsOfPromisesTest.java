/**
 * Each sentence of promises 1 to 21 that names an edge, a refused call or what a call leaves: the
 * last input that is allowed, the first that is not, and that a refused call changes nothing.
 */
public final class BoundsOfPromisesTest {
    private static final int NONE = PlacingDesk.NONE;
    private static final int LEAST = Integer.MIN_VALUE;
    private static final int MOST = Integer.MAX_VALUE;

    private final Dues dues;
    private final Twins twins;

    private BoundsOfPromisesTest(Dues dues) {
        this.dues = dues;
        this.twins = new Twins(dues);
    }

    public static void main(String[] args) throws Exception {
        Dues dues = new Dues();
        BoundsOfPromisesTest test = new BoundsOfPromisesTest(dues);
        test.statesAreAsNamed();
        test.newObject();
        test.kind();
        test.place();
        test.late();
        test.feeder();
        test.machine();
        test.ahead();
        test.then();
        test.clear();
        test.good();
        test.ticks();
        test.best();
        test.plan();
        test.lay();
        test.miss();
        test.again();
        test.run();
        test.told();
        test.state();
        test.slot();
        test.count();
        for (int number = 1; number <= 21; number++) {
            dues.yes("promise " + number + " is tested", dues.hasNamed("Promise " + number));
        }
        dues.end();
    }

    private void statesAreAsNamed() {
        dues.sentence("Terms", "A call that is refused (NONE, false) changes nothing.");
        PlacingDesk part = new PlacingDesk();
        Desks.tellPartOfPlan(part);
        dues.duePlan("a part of a plan", part, 16, 4);
        PlacingDesk bad = new PlacingDesk();
        Desks.tellBadPlan(bad);
        dues.duePlan("a bad plan", bad, 20, 0, 17, 18, 3);
        dues.due("a bad plan is not good", bad.good(), 0);
        PlacingDesk ended = new PlacingDesk();
        Desks.runToEnd(ended);
        dues.duePlan("a run at its end", ended, 16, 4, 17, 18, 3);
        dues.due("a run at its end: one miss", ended.told(2), 1);
        dues.due("a run at its end: it is at its end", ended.told(7), 1);
        PlacingDesk stopped = new PlacingDesk();
        Desks.runTillStop(stopped);
        dues.due("a run that stopped: for 3", stopped.told(5), 3);
        dues.dueStates("a run that stopped", stopped, 2, 1, 0, 0, 2);
        PlacingDesk full = new PlacingDesk();
        Desks.fillBoard(full);
        dues.due("a full board: ten places", full.count(0), 10);
        dues.due("a full board: a run at its end", full.told(7), 1);
    }

    // Promise 1

    private void newObject() {
        newKinds();
        newDeskIsEmpty();
    }

    private void newKinds() {
        dues.sentence("Promise 1", "KINDS of SIZE 1, HEIGHT 1, NOZZLE 0, not FINE");
        for (int k = 0; k <= 7; k++) {
            PlacingDesk desk = new PlacingDesk();
            desk.kind((k + 1) % 8, 1, 2, 0, false);
            dues.due("the first place of kind " + k, desk.place(50, 50, k), 0);
            dues.due("size 1: at 1", desk.place(51, 50, k), NONE);
            dues.due("size 1: at 2", desk.place(52, 50, k), 1);
            dues.due("height 1: like ones", desk.count(4), 0);
            desk.place(50, 52, (k + 1) % 8);
            dues.due("height 1: ahead of height 2", desk.ahead(0, 2), 1);
            PlacingDesk one = Desks.ofOne(10, 0, k, 0);
            dues.due("nozzle 0, not fine", one.ticks(), 2 + 10 + 3);
        }
        PlacingDesk low = new PlacingDesk();
        low.kind(0, 1, 1, 0, false);
        low.place(50, 50, 0);
        for (int k = 1; k <= 7; k++) {
            low.place(50 + 2 * k, 50, k);
            dues.due("as high as height 1", low.count(4), 0);
        }
    }

    private void newDeskIsEmpty() {
        dues.sentence("Promise 1", "no PLACES, FEEDERS, PLAN.");
        PlacingDesk desk = new PlacingDesk();
        dues.due("no places", desk.count(0), 0);
        dues.due("no pairs", desk.count(4), 0);
        dues.due("no tours", desk.count(2), 0);
        dues.dueNoPlanNoRun("new", desk);
        for (int s = 0; s <= 7; s++) {
            dues.due("no feeder in " + s, desk.slot(s, 0), NONE);
            dues.due("no parts in " + s, desk.slot(s, 1), 0);
        }
        dues.due("the next one is new too", new PlacingDesk().count(0), 0);
    }

    // Promise 2

    private void kind() {
        kindIsTold();
        noSuchKind();
        noSuchNumbersOfKind();
        placeIsOfKind();
    }

    private void kindIsTold() {
        dues.sentence("Promise 2", "A KIND: true");
        for (int k : new int[] {0, 7}) {
            PlacingDesk desk = new PlacingDesk();
            dues.yes("the most", desk.kind(k, 20, 9, 2, true));
            dues.yes("the least, over it", desk.kind(k, 1, 1, 0, false));
            dues.yes("the same again", desk.kind(k, 1, 1, 0, false));
            desk.place(10, 0, k);
            desk.feeder(0, k, 1);
            desk.then(0, true);
            dues.due("the last one told is the kind", desk.ticks(), 15);
            dues.due("of that size", desk.place(12, 0, k), 1);
        }
        PlacingDesk runs = Desks.withRun();
        dues.yes("of a kind without a place", runs.kind(7, 20, 9, 2, true));
        dues.duePlan("a plan stays", runs, 16, 1);
        dues.due("a run stays", runs.told(0), 40);
    }

    private void noSuchKind() {
        dues.sentence("Promise 2", "false: no such one");
        for (int k : new int[] {-1, 8, LEAST, MOST}) {
            twins.isFalse("kind(" + k + ", 20, 9, 2, true)", desk -> desk.kind(k, 20, 9, 2, true));
            twins.isFalse("kind(" + k + ", 1, 1, 0, false)", desk -> desk.kind(k, 1, 1, 0, false));
        }
    }

    private void noSuchNumbersOfKind() {
        dues.sentence("Promise 2", "numbers");
        int[][] wrong = {{0, 9, 2}, {21, 9, 2}, {20, 0, 2}, {20, 10, 2}, {20, 9, -1}, {20, 9, 3},
            {0, 0, -1}, {21, 10, 3}};
        for (int[] w : wrong) {
            String call = "kind(k, " + w[0] + ", " + w[1] + ", " + w[2] + ")";
            for (int k : new int[] {3, 5, 7}) {
                twins.isFalse(call + " of " + k, desk -> desk.kind(k, w[0], w[1], w[2], true));
            }
        }
    }

    private void placeIsOfKind() {
        dues.sentence("Promise 2", "or a PLACE is of it.");
        for (int kind = 0; kind <= 2; kind++) {
            int k = kind;
            twins.isFalse("a place is of " + k, "a part of a plan", Desks::tellPartOfPlan,
                    desk -> desk.kind(k, 20, 9, 2, true));
            twins.isFalse("a place is of " + k, "a run at its end", Desks::runToEnd,
                    desk -> desk.kind(k, 1, 1, 0, false));
            twins.isFalse("a place is of " + k, "a run that stopped", Desks::runTillStop,
                    desk -> desk.kind(k, 20, 1, 2, true));
            twins.isFalse("a place is of " + k, "a full board", Desks::fillBoard,
                    desk -> desk.kind(k, 2, 2, 1, false));
        }
        twins.isFalse("it is as it was told", "a run at its end", Desks::runToEnd,
                desk -> desk.kind(1, 3, 5, 1, true));
        PlacingDesk only = Desks.of(1);
        dues.due("the only place is of it", only.kind(0, 1, 1, 0, false), false);
        only.place(100, 100, 1);
        dues.due("the first place is of it", only.kind(0, 1, 1, 0, false), false);
        dues.due("the last place is of it", only.kind(1, 1, 1, 0, false), false);
        PlacingDesk last = new PlacingDesk();
        for (int p = 0; p < 9; p++) {
            last.place(20 * p, 0, 0);
        }
        dues.yes("no place is of 7", last.kind(7, 2, 2, 2, true));
        dues.due("the last place is of 7", last.place(0, 100, 7), 9);
        dues.due("a place is of 7", last.kind(7, 2, 2, 2, true), false);
        dues.yes("no place is of 6", last.kind(6, 2, 2, 2, true));
        PlacingDesk refused = new PlacingDesk();
        refused.place(10, 10, 0);
        dues.due("a place of 1 that is refused", refused.place(10, 10, 1), NONE);
        dues.yes("no place is of 1", refused.kind(1, 5, 5, 1, true));
    }

    // Promise 3

    private void place() {
        placeEndsPlanAndRun();
        noSuchPoint();
        noSuchKindOfPlace();
        wouldOverlap();
        placeInRing();
        tenAreThere();
    }

    private void placeEndsPlanAndRun() {
        dues.sentence("Promise 3", "A PLACE: its number (PLAN and RUN are gone)");
        PlacingDesk desk = Desks.withRun();
        dues.due("its number", desk.place(199, 199, 7), 2);
        dues.dueNoPlanNoRun("place", desk);
        dues.due("no tours", desk.count(2), 0);
        dues.due("parts stay as the run left them", desk.slot(0, 1), 98);
        PlacingDesk empty = new PlacingDesk();
        dues.due("a run of nothing", empty.run(), 0);
        dues.due("the first one", empty.place(0, 0, 0), 0);
        dues.dueNoPlanNoRun("the first one", empty);
        PlacingDesk stopped = new PlacingDesk();
        Desks.runTillStop(stopped);
        dues.due("behind a stop", stopped.place(199, 199, 7), 5);
        dues.dueNoPlanNoRun("behind a stop", stopped);
    }

    private void noSuchPoint() {
        dues.sentence("Promise 3", "NONE: no such point");
        int[][] allowed = {{0, 0}, {199, 0}, {0, 199}, {199, 199}};
        for (int[] point : allowed) {
            dues.due("an edge", new PlacingDesk().place(point[0], point[1], 0), 0);
        }
        int[][] wrong = {{-1, 0}, {0, -1}, {200, 0}, {0, 200}, {-1, -1}, {200, 200}, {LEAST, 199},
            {199, LEAST}, {MOST, 199}, {199, MOST}};
        for (int[] point : wrong) {
            String call = "place(" + point[0] + ", " + point[1] + ", 7)";
            twins.isNone(call, desk -> desk.place(point[0], point[1], 7));
        }
    }

    private void noSuchKindOfPlace() {
        dues.sentence("Promise 3", "KIND");
        dues.due("kind 0", new PlacingDesk().place(0, 0, 0), 0);
        dues.due("kind 7", new PlacingDesk().place(0, 0, 7), 0);
        for (int k : new int[] {-1, 8, LEAST, MOST}) {
            twins.isNone("place(199, 199, " + k + ")", desk -> desk.place(199, 199, k));
        }
    }

    private void wouldOverlap() {
        dues.sentence("Promise 3", "it would OVERLAP");
        // Place 0 of size 1 is at (20, 20), place 4 of size 1 at (100, 20).
        int[][] over = {{100, 20}, {101, 20}, {99, 20}, {100, 21}, {100, 19}, {101, 21}, {99, 19}};
        for (int[] point : over) {
            String call = "place(" + point[0] + ", " + point[1] + ", 7)";
            twins.isNone(call, "a part of a plan", Desks::tellPartOfPlan,
                    desk -> desk.place(point[0], point[1], 7));
            twins.isNone(call, "a run at its end", Desks::runToEnd,
                    desk -> desk.place(point[0], point[1], 7));
            twins.isNone(call, "a run that stopped", Desks::runTillStop,
                    desk -> desk.place(point[0], point[1], 7));
        }
        int[][] beside = {{102, 20}, {98, 20}, {100, 22}, {100, 18}, {102, 21}, {99, 22}};
        for (int[] point : beside) {
            PlacingDesk desk = new PlacingDesk();
            Desks.tellMuch(desk);
            dues.due("beside it", desk.place(point[0], point[1], 7), 5);
        }
        PlacingDesk last = new PlacingDesk();
        last.kind(1, 20, 1, 0, false);
        last.place(100, 100, 1);
        last.place(50, 50, 1);
        dues.due("over the first", last.place(61, 100, 1), NONE);
        dues.due("over the second", last.place(89, 50, 1), NONE);
        dues.due("over both", last.place(75, 75, 1), NONE);
        dues.due("beside both", last.place(60, 140, 1), 2);
    }

    /** A high place 0 and a low place 1, between which one of a middle height is near to both. */
    private static void tellHighAndLow(PlacingDesk desk) {
        desk.kind(1, 1, 2, 0, false);
        desk.kind(2, 1, 3, 0, false);
        desk.place(50, 50, 2);
        desk.place(58, 50, 0);
        desk.place(100, 100, 0);
        desk.feeder(0, 0, 9);
        desk.feeder(1, 1, 9);
        desk.feeder(2, 2, 9);
    }

    private static void tellHighAhead(PlacingDesk desk) {
        tellHighAndLow(desk);
        desk.late(1, 0);
        Desks.planSingly(desk);
        desk.run();
    }

    private static void tellHighAheadOverAnother(PlacingDesk desk) {
        tellHighAndLow(desk);
        desk.late(2, 0);
        desk.late(1, 2);
        Desks.plan(desk, 16, 18, 17);
        desk.feeder(0, 0, 0);
        desk.run();
    }

    private void placeInRing() {
        dues.sentence("Promise 3", "what is AHEAD would go in a ring");
        twins.isNone("place(54, 50, 1)", "the high one ahead", BoundsOfPromisesTest::tellHighAhead,
                desk -> desk.place(54, 50, 1));
        twins.isNone("place(54, 46, 1)", "the high one ahead", BoundsOfPromisesTest::tellHighAhead,
                desk -> desk.place(54, 46, 1));
        twins.isNone("place(54, 50, 1)", "the high one ahead over another one",
                BoundsOfPromisesTest::tellHighAheadOverAnother, desk -> desk.place(54, 50, 1));
        PlacingDesk free = new PlacingDesk();
        tellHighAndLow(free);
        dues.due("without a late one", free.place(54, 50, 1), 3);
        dues.due("low, middle, high", free.ahead(1, 3) + free.ahead(3, 0), 2);
        PlacingDesk near = new PlacingDesk();
        tellHighAhead(near);
        dues.due("near to the high one alone", near.place(53, 50, 1), 3);
        dues.due("it is ahead of it", near.ahead(3, 0), 1);
        PlacingDesk low = new PlacingDesk();
        tellHighAhead(low);
        dues.due("near to the low one alone", low.place(55, 50, 1), 3);
        dues.due("it is behind it", low.ahead(1, 3), 1);
        PlacingDesk like = new PlacingDesk();
        tellHighAhead(like);
        dues.due("as low as the low one", like.place(54, 50, 0), 3);
        dues.due("ahead of the high one", like.ahead(3, 0), 1);
        dues.due("not of the low one", like.ahead(3, 1), 0);
        PlacingDesk turned = new PlacingDesk();
        tellHighAndLow(turned);
        dues.yes("the high one is late", turned.late(0, 1));
        dues.due("no ring", turned.place(54, 50, 1), 3);
    }

    private void tenAreThere() {
        dues.sentence("Promise 3", "10 are there.");
        PlacingDesk desk = new PlacingDesk();
        for (int p = 0; p < 10; p++) {
            dues.due("place " + p, desk.place(20 * p, 20, 7), p);
        }
        dues.due("an eleventh", desk.place(0, 100, 7), NONE);
        dues.due("an eleventh again", desk.place(199, 199, 0), NONE);
        twins.isNone("an eleventh", "a full board", Desks::fillBoard, full -> full.place(199, 0, 7));
    }

    // Promise 4

    private void late() {
        lateEndsPlanAndRun();
        noSuchTwoLate();
        lateWasTold();
        lateInRing();
    }

    private void lateEndsPlanAndRun() {
        dues.sentence("Promise 4", "PLACE p is LATE behind q (PLAN and RUN are gone): true");
        PlacingDesk desk = Desks.withRun();
        dues.yes("late(1, 0)", desk.late(1, 0));
        dues.dueNoPlanNoRun("late", desk);
        dues.due("q is ahead", desk.ahead(0, 1), 1);
        dues.due("p is not", desk.ahead(1, 0), 0);
        PlacingDesk ten = Desks.of(10);
        for (int p = 0; p < 10; p++) {
            for (int q = 0; q < p; q++) {
                dues.yes("late(" + p + ", " + q + ")", ten.late(p, q));
            }
        }
        dues.due("45 pairs", ten.count(4), 45);
        Desks.planSingly(ten);
        dues.due("one order is good", ten.good(), 1);
    }

    private void noSuchTwoLate() {
        dues.sentence("Promise 4", "false: no such two");
        for (int wrong : new int[] {-1, 10, LEAST, MOST, 32}) {
            twins.isFalse("late(" + wrong + ", 0)", desk -> desk.late(wrong, 0));
            twins.isFalse("late(0, " + wrong + ")", desk -> desk.late(0, wrong));
            twins.isFalse("late of " + wrong, desk -> desk.late(wrong, wrong));
        }
        for (int place = 0; place <= 9; place++) {
            int p = place;
            twins.isFalse("late of itself: " + p, desk -> desk.late(p, p));
        }
        twins.isFalse("late(5, 0)", "a run at its end", Desks::runToEnd, desk -> desk.late(5, 0));
        twins.isFalse("late(0, 5)", "a run at its end", Desks::runToEnd, desk -> desk.late(0, 5));
        PlacingDesk desk = Desks.of(3);
        dues.due("late(3, 0) of three", desk.late(3, 0), false);
        dues.due("late(0, 3) of three", desk.late(0, 3), false);
        dues.yes("late(2, 0) of three", desk.late(2, 0));
        dues.yes("late(1, 2) of three", desk.late(1, 2));
        dues.due("late of none", new PlacingDesk().late(0, 1), false);
    }

    private void lateWasTold() {
        dues.sentence("Promise 4", "it was told");
        twins.isFalse("late(4, 0) again", "a run at its end", Desks::runToEnd, desk -> desk.late(4, 0));
        twins.isFalse("late(3, 2) again", "a run that stopped", Desks::runTillStop,
                desk -> desk.late(3, 2));
        twins.isFalse("late(4, 0) again", "a full board", Desks::fillBoard, desk -> desk.late(4, 0));
        PlacingDesk heights = new PlacingDesk();
        Desks.runToEnd(heights);
        dues.due("0 is ahead of 1 by its height", heights.ahead(0, 1), 1);
        dues.yes("that was not told", heights.late(1, 0));
        dues.dueNoPlanNoRun("told now", heights);
        dues.due("told twice", heights.late(1, 0), false);
        dues.due("the pairs are as many", heights.count(4), 3);
    }

    private void lateInRing() {
        dues.sentence("Promise 4", "or what is AHEAD would go in a ring.");
        twins.isFalse("late(0, 4): two that were told", "a run at its end", Desks::runToEnd,
                desk -> desk.late(0, 4));
        twins.isFalse("late(0, 1): against the heights", "a run that stopped", Desks::runTillStop,
                desk -> desk.late(0, 1));
        twins.isFalse("late(0, 1): 0 would be lost", "a late one that misses first", desk -> {
            desk.place(10, 10, 0);
            desk.place(30, 10, 1);
            desk.late(1, 0);
            desk.feeder(0, 1, 9);
            desk.feeder(1, 0, 9);
            desk.again(0);
            desk.miss(1);
            Desks.plan(desk, 16, 1);
        }, desk -> desk.late(0, 1));
        for (int places = 2; places <= 10; places++) {
            PlacingDesk desk = Desks.of(places);
            for (int p = 1; p < places; p++) {
                dues.yes("a chain", desk.late(p, p - 1));
            }
            Desks.planSingly(desk);
            desk.run();
            dues.due("a ring of " + places, desk.late(0, places - 1), false);
            dues.due("its pairs", desk.count(4), places - 1);
            dues.due("not ahead", desk.ahead(places - 1, 0), 0);
            dues.due("the run stays", desk.told(3), places);
            if (places > 2) {
                dues.yes("over the chain, no ring", desk.late(places - 1, 0));
            }
        }
        PlacingDesk down = Desks.of(10);
        for (int p = 0; p < 9; p++) {
            dues.yes("a chain down", down.late(p, p + 1));
        }
        dues.due("a ring of ten, down", down.late(9, 0), false);
    }

    // Promise 5

    private void feeder() {
        feederIsTold();
        nothingInSlot();
        noSuchFeeder();
    }

    private void feederIsTold() {
        dues.sentence("Promise 5", "true (a RUN stays)");
        PlacingDesk desk = new PlacingDesk();
        Desks.runTillStop(desk);
        int ticks = desk.told(0);
        for (int s = 0; s <= 7; s++) {
            dues.yes("feeder in " + s, desk.feeder(s, s, 100 - s));
            dues.due("its kind", desk.slot(s, 0), s);
            dues.due("its parts", desk.slot(s, 1), 100 - s);
        }
        dues.due("the run stays", desk.told(0), ticks);
        dues.due("where it stopped", desk.told(5), 3);
        dues.duePlan("the plan stays", desk, 16, 4, 17, 18, 3);
        dues.yes("it goes on", desk.run() > ticks);
        dues.due("to its end", desk.told(7), 1);
        dues.yes("nothing", desk.feeder(2, NONE, 1));
        dues.due("it stays at its end", desk.told(7), 1);
    }

    private void nothingInSlot() {
        dues.sentence("Promise 5", "(NONE: nothing) with parts (of NONE not looked at)");
        for (int parts : new int[] {0, 100, -1, 101, LEAST, MOST}) {
            for (int s : new int[] {0, 7}) {
                PlacingDesk desk = new PlacingDesk();
                desk.feeder(s, 3, 50);
                dues.yes("feeder(" + s + ", NONE, " + parts + ")", desk.feeder(s, NONE, parts));
                dues.due("no kind", desk.slot(s, 0), NONE);
                dues.due("no parts", desk.slot(s, 1), 0);
            }
        }
        PlacingDesk run = Desks.withRun();
        run.feeder(0, NONE, 9);
        dues.due("the plan has no feeder", run.good(), 0);
        dues.due("the run stays", run.told(0), 40);
    }

    private void noSuchFeeder() {
        dues.sentence("Promise 5", "false: no such ones.");
        int[][] wrong = {{-1, 0, 50}, {8, 0, 50}, {LEAST, 0, 50}, {MOST, 0, 50}, {-1, NONE, 50},
            {8, NONE, 50}, {0, -2, 50}, {1, 8, 50}, {4, LEAST, 50}, {7, MOST, 50}, {1, 0, -1},
            {1, 0, 101}, {4, 2, LEAST}, {4, 2, MOST}, {0, 7, -1}, {0, 7, 101}, {8, 8, 101}};
        for (int[] w : wrong) {
            String call = "feeder(" + w[0] + ", " + w[1] + ", " + w[2] + ")";
            twins.isFalse(call, desk -> desk.feeder(w[0], w[1], w[2]));
        }
        int[][] allowed = {{0, 0, 0}, {0, 0, 100}, {7, 7, 0}, {7, 7, 100}};
        for (int[] a : allowed) {
            dues.yes("an edge", new PlacingDesk().feeder(a[0], a[1], a[2]));
        }
    }

    // Promise 6

    private void machine() {
        machineEndsPlanAndRun();
        noSuchNumbersOfMachine();
    }

    private void machineEndsPlanAndRun() {
        dues.sentence("Promise 6", "THE MACHINE (a PLAN and RUN are gone): true");
        int[][] allowed = {{1, 1, 1, 0, 0}, {4, 20, 20, 20, 50}, {2, 2, 3, 4, 10}};
        for (int[] a : allowed) {
            PlacingDesk desk = Desks.withRun();
            dues.yes("machine", desk.machine(a[0], a[1], a[2], a[3], a[4]));
            dues.dueNoPlanNoRun("machine", desk);
            dues.due("nozzles", desk.count(3), a[0]);
            Desks.planSingly(desk);
            dues.due("ticks", desk.ticks(), 2 * a[1] + 2 * a[2] + 10 + 10 + 30);
            dues.due("places stay", desk.count(0), 2);
            dues.due("parts stay", desk.slot(0, 1), 98);
        }
        PlacingDesk part = new PlacingDesk();
        Desks.tellPartOfPlan(part);
        dues.yes("the same numbers", part.machine(3, 4, 5, 6, 7));
        dues.dueNoPlanNoRun("the same numbers", part);
    }

    private void noSuchNumbersOfMachine() {
        dues.sentence("Promise 6", "false: no such numbers.");
        int[] least = {1, 1, 1, 0, 0};
        int[] most = {4, 20, 20, 20, 50};
        for (int i = 0; i < 5; i++) {
            for (int wrong : new int[] {least[i] - 1, most[i] + 1, LEAST, MOST}) {
                int[] low = least.clone();
                int[] high = most.clone();
                low[i] = wrong;
                high[i] = wrong;
                String call = "machine with " + wrong + " as number " + i;
                twins.isFalse(call, desk -> desk.machine(low[0], low[1], low[2], low[3], low[4]));
                twins.isFalse(call, desk -> desk.machine(high[0], high[1], high[2], high[3], high[4]));
            }
        }
    }

    // Promise 7

    private void ahead() {
        aheadOrNot();
        noSuchTwoAhead();
    }

    private void aheadOrNot() {
        dues.sentence("Promise 7", "Whether PLACE p is AHEAD of q: 1, 0");
        PlacingDesk desk = new PlacingDesk();
        Desks.tellMuch(desk);
        int[][] pairs = {{0, 1}, {0, 4}, {2, 3}};
        for (int p = 0; p < 5; p++) {
            for (int q = 0; q < 5; q++) {
                int want = p == q ? NONE : 0;
                for (int[] pair : pairs) {
                    want = pair[0] == p && pair[1] == q ? 1 : want;
                }
                dues.due("ahead(" + p + ", " + q + ")", desk.ahead(p, q), want);
            }
        }
        PlacingDesk chain = Desks.of(10);
        for (int p = 1; p < 10; p++) {
            chain.late(p, p - 1);
        }
        dues.due("the next one", chain.ahead(8, 9), 1);
        dues.due("over others is not", chain.ahead(0, 9), 0);
        dues.due("nor back", chain.ahead(9, 0), 0);
    }

    private void noSuchTwoAhead() {
        dues.sentence("Promise 7", "NONE: no such two.");
        for (int wrong : new int[] {-1, 10, LEAST, MOST, 32}) {
            twins.isNone("ahead(" + wrong + ", 0)", desk -> desk.ahead(wrong, 0));
            twins.isNone("ahead(0, " + wrong + ")", desk -> desk.ahead(0, wrong));
            twins.isNone("ahead of " + wrong, desk -> desk.ahead(wrong, wrong));
        }
        for (int place = 0; place <= 9; place++) {
            int p = place;
            twins.isNone("ahead of itself: " + p, desk -> desk.ahead(p, p));
        }
        for (int places = 0; places <= 10; places++) {
            PlacingDesk desk = Desks.of(places);
            dues.due("the last two of " + places, desk.ahead(places - 2, places - 1), places < 2 ? NONE : 0);
            dues.due("one behind " + places, desk.ahead(0, places), NONE);
            dues.due("one behind " + places + ", turned", desk.ahead(places, 0), NONE);
        }
    }

    // Promise 8

    private void then() {
        comesBehindPlan();
        noSuchPlaceForPlan();
        isInPlan();
        thenEndsRun();
    }

    private void comesBehindPlan() {
        dues.sentence("Promise 8", "A PLACE comes behind the PLAN being told; a TOUR begins with it, or "
                + "not: how many it has");
        PlacingDesk desk = Desks.of(10);
        for (int p = 9; p >= 0; p--) {
            dues.due("then(" + p + ")", desk.then(p, p % 3 == 0), 10 - p);
            dues.due("behind the others", desk.plan(9 - p), p % 3 == 0 ? p + 16 : p);
            dues.due("nothing behind it", desk.plan(10 - p), NONE);
        }
        dues.due("tours", desk.count(2), 4);
    }

    private void noSuchPlaceForPlan() {
        dues.sentence("Promise 8", "NONE: no such PLACE");
        for (int p : new int[] {-1, 10, 16, 32, LEAST, MOST}) {
            twins.isNone("then(" + p + ", true)", desk -> desk.then(p, true));
            twins.isNone("then(" + p + ", false)", desk -> desk.then(p, false));
        }
        twins.isNone("then(0) without places", "a new desk", desk -> { }, desk -> desk.then(0, true));
        twins.isNone("then(5) of five", "a part of a plan", Desks::tellPartOfPlan,
                desk -> desk.then(5, true));
        PlacingDesk desk = new PlacingDesk();
        Desks.tellPartOfPlan(desk);
        dues.due("then(3) of five", desk.then(3, false), 3);
        for (int places = 1; places <= 10; places++) {
            PlacingDesk some = Desks.of(places);
            dues.due("one behind " + places, some.then(places, true), NONE);
            dues.due("the last one of " + places, some.then(places - 1, true), 1);
        }
    }

    private void isInPlan() {
        dues.sentence("Promise 8", "it is in it.");
        for (int place : new int[] {0, 4}) {
            twins.isNone("then(" + place + ", true)", "a part of a plan", Desks::tellPartOfPlan,
                    desk -> desk.then(place, true));
            twins.isNone("then(" + place + ", false)", "a run at its end", Desks::runToEnd,
                    desk -> desk.then(place, false));
            twins.isNone("then(" + place + ", true)", "a run that stopped", Desks::runTillStop,
                    desk -> desk.then(place, true));
        }
        for (int place = 0; place <= 9; place++) {
            int p = place;
            twins.isNone("then(" + p + ")", "a full board", Desks::fillBoard, full -> full.then(p, true));
        }
        PlacingDesk desk = Desks.of(3);
        desk.best();
        dues.due("it is in the best plan", desk.then(2, true), NONE);
    }

    private void thenEndsRun() {
        dues.sentence("Promise 8", "(The RUN is gone.)");
        PlacingDesk desk = new PlacingDesk();
        dues.due("a run of nothing", desk.run(), 0);
        dues.due("it is at its end", desk.told(7), 1);
        desk.place(10, 10, 0);
        dues.due("then", desk.then(0, true), 1);
        dues.dueNoRun("then", desk);
        PlacingDesk anew = Desks.withRun();
        anew.clear();
        anew.then(0, true);
        dues.dueNoRun("a new plan", anew);
        anew.then(1, true);
        dues.dueNoRun("a whole plan", anew);
    }

    // Promises 9, 10, 11

    private void clear() {
        dues.sentence("Promise 9", "The PLAN is empty (the RUN is gone).");
        Desks.states().forEach((name, state) -> {
            PlacingDesk desk = new PlacingDesk();
            state.accept(desk);
            int places = desk.count(0);
            int pairs = desk.count(4);
            int parts = desk.slot(1, 1);
            for (int twice = 0; twice < 2; twice++) {
                desk.clear();
                dues.dueNoPlanNoRun(name, desk);
                dues.due(name + ": no tours", desk.count(2), 0);
                dues.due(name + ": places stay", desk.count(0), places);
                dues.due(name + ": pairs stay", desk.count(4), pairs);
                dues.due(name + ": parts stay", desk.slot(1, 1), parts);
            }
            for (int p = 0; p < places; p++) {
                dues.due(name + ": all may come again", desk.then(p, false), p + 1);
            }
        });
    }

    private void good() {
        dues.sentence("Promise 10", "Whether the PLAN is GOOD: 1, 0.");
        dues.due("no places", new PlacingDesk().good(), 1);
        PlacingDesk part = new PlacingDesk();
        Desks.tellPartOfPlan(part);
        dues.due("a part of a plan", part.good(), 0);
        PlacingDesk whole = new PlacingDesk();
        Desks.tellGoodPlan(whole);
        dues.due("a good plan", whole.good(), 1);
        dues.duePlan("it stays", whole, 16, 4, 17, 18, 3);
        PlacingDesk bad = new PlacingDesk();
        Desks.tellBadPlan(bad);
        dues.due("a bad plan", bad.good(), 0);
        PlacingDesk stopped = new PlacingDesk();
        Desks.runTillStop(stopped);
        dues.due("a run that stopped", stopped.good(), 1);
        dues.due("the run stays", stopped.told(5), 3);
        PlacingDesk full = new PlacingDesk();
        Desks.fillBoard(full);
        dues.due("ten places", full.good(), 1);
        full.clear();
        dues.due("ten places, an empty plan", full.good(), 0);
    }

    private void ticks() {
        ticksOfGoodPlan();
        ticksOfBadPlan();
    }

    private void ticksOfGoodPlan() {
        dues.sentence("Promise 11", "TICKS of the PLAN");
        dues.due("no places", new PlacingDesk().ticks(), 0);
        PlacingDesk stopped = new PlacingDesk();
        Desks.runTillStop(stopped);
        int first = 20 + 8 + 20 + 5 + 80 + 5;
        int second = 7 + 40 + 4 + 139 + 6 + 174 + 5;
        int third = 7 + 55 + 8 + 60 + 5 + 4 + 5;
        dues.due("however many parts there are", stopped.ticks(), first + second + third);
        dues.due("the run stays", stopped.told(5), 3);
    }

    private void ticksOfBadPlan() {
        dues.sentence("Promise 11", "NONE: it is not GOOD.");
        twins.isNone("ticks", "a part of a plan", Desks::tellPartOfPlan, PlacingDesk::ticks);
        twins.isNone("ticks", "a bad plan", Desks::tellBadPlan, PlacingDesk::ticks);
        twins.isNone("ticks", "an empty plan", Desks::tellMuch, PlacingDesk::ticks);
        twins.isNone("ticks", "a run whose feeder is gone", BoundsOfPromisesTest::tellNoFeeder,
                PlacingDesk::ticks);
    }

    /** A run that has stopped, and whose plan has no feeder for one kind any more. */
    private static void tellNoFeeder(PlacingDesk desk) {
        Desks.runTillStop(desk);
        desk.feeder(4, NONE, 0);
    }

    // Promise 12

    private void best() {
        bestBecomesPlan();
        moreThanSeven();
        bestOfNone();
        noneIsGood();
    }

    private void bestBecomesPlan() {
        dues.sentence("Promise 12", "THE BEST PLAN becomes the PLAN (the RUN is gone): its TICKS");
        PlacingDesk desk = Desks.of(2);
        Desks.plan(desk, 17, 16);
        desk.run();
        dues.due("its ticks", desk.best(), 40);
        dues.duePlan("best", desk, 16, 1);
        dues.dueNoRun("best", desk);
        dues.due("the plan's ticks", desk.ticks(), 40);
        desk.run();
        dues.due("the same plan again", desk.best(), 40);
        dues.duePlan("the same plan again", desk, 16, 1);
        dues.dueNoRun("the same plan again", desk);
        desk.feeder(0, 0, 0);
        dues.due("without parts", desk.best(), 40);
        dues.due("one place", Desks.of(1).best(), 2 + 10 + 3);
    }

    /** Eight places that all may be set in a good plan, and a run that stopped. */
    private static void tellEight(PlacingDesk desk) {
        for (int p = 0; p < 8; p++) {
            desk.place(20 * p, 30, 0);
        }
        desk.feeder(2, 0, 3);
        Desks.planSingly(desk);
        desk.run();
    }

    private void moreThanSeven() {
        dues.sentence("Promise 12", "NONE: more than 7 PLACES");
        twins.isNone("best", "eight places", BoundsOfPromisesTest::tellEight, PlacingDesk::best);
        twins.isNone("best", "a full board", Desks::fillBoard, PlacingDesk::best);
        PlacingDesk desk = Desks.of(7);
        desk.machine(1, 2, 3, 4, 10);
        dues.due("seven", desk.best(), 2 * (10 + 30 + 50 + 70 + 90 + 110) + 130 + 7 * 5);
        dues.duePlan("seven", desk, 16, 17, 18, 19, 20, 21, 22);
    }

    private void bestOfNone() {
        dues.sentence("Promise 12", "none, or");
        twins.isNone("best", "a new desk", desk -> { }, PlacingDesk::best);
        twins.isNone("best", "feeders without places", desk -> {
            desk.feeder(0, 0, 9);
            desk.machine(4, 1, 1, 0, 0);
            desk.run();
        }, PlacingDesk::best);
        PlacingDesk one = Desks.of(1);
        dues.due("one", one.best(), 15);
        dues.duePlan("one", one, 16);
    }

    private void noneIsGood() {
        dues.sentence("Promise 12", "none is GOOD (all stays).");
        twins.isNone("best", "a run whose feeder is gone", BoundsOfPromisesTest::tellNoFeeder,
                PlacingDesk::best);
        twins.isNone("best", "one place without a feeder", desk -> {
            desk.place(10, 10, 0);
            desk.then(0, false);
        }, PlacingDesk::best);
        twins.isNone("best", "the last kind without a feeder", desk -> {
            for (int k = 0; k < 7; k++) {
                desk.place(20 * k, 10, k);
                desk.feeder(k, k == 6 ? 7 : k, 9);
            }
            Desks.plan(desk, 16, 1, 18);
        }, PlacingDesk::best);
        PlacingDesk desk = new PlacingDesk();
        tellNoFeeder(desk);
        desk.feeder(7, 2, 0);
        dues.yes("a feeder without parts is enough", desk.best() > 0);
        dues.dueNoRun("best", desk);
    }

    // Promise 13

    private void plan() {
        ithOfPlan();
        noIthOfPlan();
    }

    private void ithOfPlan() {
        dues.sentence("Promise 13", "The i-th PLACE of the PLAN, and 16 more if a TOUR begins with it");
        PlacingDesk desk = Desks.of(10);
        int[] codes = {25, 0, 24, 17, 2, 19, 20, 5, 6, 23};
        Desks.plan(desk, codes);
        dues.duePlan("ten", desk, codes);
        dues.duePlan("and again", desk, codes);
    }

    private void noIthOfPlan() {
        dues.sentence("Promise 13", "NONE: there is none such.");
        for (int i : new int[] {-1, 10, LEAST, MOST}) {
            twins.isNone("plan(" + i + ")", desk -> desk.plan(i));
        }
        twins.isNone("plan(0)", "a new desk", desk -> { }, desk -> desk.plan(0));
        twins.isNone("plan(2)", "a part of a plan", Desks::tellPartOfPlan, desk -> desk.plan(2));
        for (int length = 0; length <= 10; length++) {
            PlacingDesk desk = Desks.of(10);
            for (int p = 0; p < length; p++) {
                desk.then(p, false);
            }
            dues.due("one behind " + length, desk.plan(length), NONE);
            dues.due("the last of " + length, desk.plan(length - 1),
                    length == 0 ? NONE : length == 1 ? 16 : length - 1);
            desk.clear();
            dues.due("none behind clear", desk.plan(0), NONE);
        }
    }

    // Promise 14

    private void lay() {
        howManyExchanges();
        layBadPlan();
        layEndsRun();
    }

    private void howManyExchanges() {
        dues.sentence("Promise 14", "TO LAY: how many exchanges");
        dues.due("no places", new PlacingDesk().lay(), 0);
        PlacingDesk none = Desks.of(1);
        none.then(0, true);
        dues.due("it lies best", none.lay(), 0);
        PlacingDesk one = Desks.ofOne(0, 0, 0, 7);
        dues.due("one", one.lay(), 1);
        dues.due("none more", one.lay(), 0);
        PlacingDesk three = new PlacingDesk();
        three.place(0, 0, 0);
        three.place(2, 0, 1);
        three.feeder(6, 0, 9);
        three.feeder(7, 1, 9);
        Desks.planSingly(three);
        // Ways of 518 ticks; slots 0 and 7: 242; slots 1 and 6: 42; slots 0 and 1: 38.
        dues.due("before", three.ticks(), 120 + 120 + 140 + 138 + 10);
        dues.due("three", three.lay(), 3);
        dues.due("kind 0 in slot 0", three.slot(0, 0), 0);
        dues.due("kind 1 in slot 1", three.slot(1, 0), 1);
        dues.due("behind", three.ticks(), 20 + 18 + 10);
        dues.duePlan("the plan stays", three, 16, 17);
    }

    private void layBadPlan() {
        dues.sentence("Promise 14", "NONE: the PLAN is not GOOD.");
        twins.isNone("lay", "a part of a plan", Desks::tellPartOfPlan, PlacingDesk::lay);
        twins.isNone("lay", "a bad plan", Desks::tellBadPlan, PlacingDesk::lay);
        twins.isNone("lay", "an empty plan", Desks::tellMuch, PlacingDesk::lay);
        twins.isNone("lay", "a run whose feeder is gone", BoundsOfPromisesTest::tellNoFeeder,
                PlacingDesk::lay);
    }

    private void layEndsRun() {
        dues.sentence("Promise 14", "(The RUN is gone if there was one.)");
        PlacingDesk none = Desks.withRun();
        dues.due("no exchange", none.lay(), 0);
        dues.dueNoRun("no exchange", none);
        dues.duePlan("the plan stays", none, 16, 1);
        PlacingDesk one = Desks.ofOne(0, 0, 0, 7);
        one.run();
        dues.due("an exchange", one.lay(), 1);
        dues.dueNoRun("an exchange", one);
        PlacingDesk stopped = new PlacingDesk();
        Desks.runTillStop(stopped);
        dues.yes("behind a stop", stopped.lay() >= 0);
        dues.dueNoRun("behind a stop", stopped);
        PlacingDesk empty = new PlacingDesk();
        empty.run();
        dues.due("a run of nothing", empty.lay(), 0);
        dues.dueNoRun("a run of nothing", empty);
        PlacingDesk noRun = Desks.ofOne(0, 0, 0, 7);
        dues.due("without a run", noRun.lay(), 1);
        dues.dueNoRun("without a run", noRun);
    }

    // Promises 15, 16

    private void miss() {
        takeMisses();
        noSuchTake();
        missWasTold();
    }

    private void takeMisses() {
        dues.sentence("Promise 15", "TAKE number n (1 to 200) MISSES: true");
        PlacingDesk desk = Desks.withRun();
        dues.yes("miss(1)", desk.miss(1));
        dues.yes("miss(200)", desk.miss(200));
        dues.due("the run stays", desk.told(0), 40);
        dues.duePlan("the plan stays", desk, 16, 1);
        desk.run();
        dues.due("take 1 misses", desk.told(2), 1);
        desk.run();
        dues.due("in each run", desk.told(2), 1);
        PlacingDesk all = new PlacingDesk();
        for (int n = 1; n <= 200; n++) {
            dues.yes("miss(" + n + ")", all.miss(n));
        }
    }

    private void noSuchTake() {
        dues.sentence("Promise 15", "false: no such n");
        for (int n : new int[] {0, 201, -1, LEAST, MOST, 256}) {
            twins.isFalse("miss(" + n + ")", desk -> desk.miss(n));
        }
    }

    private void missWasTold() {
        dues.sentence("Promise 15", "it was told.");
        twins.isFalse("miss(2) again", "a part of a plan", Desks::tellPartOfPlan, desk -> desk.miss(2));
        twins.isFalse("miss(2) again", "a run at its end", Desks::runToEnd, desk -> desk.miss(2));
        twins.isFalse("miss(1) again", "a run that stopped", Desks::runTillStop, desk -> desk.miss(1));
        PlacingDesk desk = new PlacingDesk();
        for (int n : new int[] {1, 200}) {
            dues.yes("miss(" + n + ")", desk.miss(n));
            dues.due("miss(" + n + ") again", desk.miss(n), false);
            dues.due("miss(" + n + ") once more", desk.miss(n), false);
        }
        desk.place(10, 10, 0);
        desk.clear();
        desk.machine(4, 1, 1, 1, 1);
        dues.due("it was told to the desk", desk.miss(1), false);
        dues.yes("another one", desk.miss(2));
        dues.yes("another desk", new PlacingDesk().miss(1));
    }

    private void again() {
        againIsTold();
        noSuchAgain();
    }

    private void againIsTold() {
        dues.sentence("Promise 16", "AGAIN: true");
        for (int n = 0; n <= 3; n++) {
            PlacingDesk desk = Desks.withRun();
            dues.yes("again(" + n + ")", desk.again(n));
            dues.yes("again(" + n + ") again", desk.again(n));
            dues.due("the run stays", desk.told(0), 40);
            dues.duePlan("the plan stays", desk, 16, 1);
            for (int take = 1; take <= 8; take++) {
                desk.miss(take);
            }
            desk.run();
            dues.due("takes", desk.told(1), 2 * (n + 1));
        }
        PlacingDesk last = Desks.ofOne(0, 0, 0, 0);
        last.again(3);
        last.again(0);
        last.miss(1);
        last.run();
        dues.due("the last one told", last.told(1), 1);
    }

    private void noSuchAgain() {
        dues.sentence("Promise 16", "false: no such number.");
        for (int n : new int[] {-1, 4, LEAST, MOST}) {
            twins.isFalse("again(" + n + ")", desk -> desk.again(n));
        }
    }

    // Promise 17

    private void run() {
        runBeginsOrGoesOn();
        runOfBadPlan();
        runBeginsAnew();
    }

    private void runBeginsOrGoesOn() {
        dues.sentence("Promise 17", "A RUN begins, or goes on where it STOPPED: its ticks so far");
        dues.due("no places", new PlacingDesk().run(), 0);
        PlacingDesk desk = Desks.of(3);
        desk.feeder(0, 0, 0);
        Desks.planSingly(desk);
        dues.due("it stops at once", desk.run(), 0);
        int[] ticks = {15, 15 + 10 + 2 + 30 + 3, 15 + 10 + 2 + 30 + 3 + 30 + 2 + 50 + 3};
        for (int tour = 0; tour < 3; tour++) {
            desk.feeder(0, 0, 1);
            dues.due("on by a tour", desk.run(), ticks[tour]);
            dues.due("so far", desk.told(0), ticks[tour]);
            dues.due("tours", desk.told(6), tour + 1);
            dues.due("at its end", desk.told(7), tour == 2 ? 1 : 0);
        }
    }

    private void runOfBadPlan() {
        dues.sentence("Promise 17", "NONE: the PLAN is not GOOD.");
        twins.isNone("run", "a part of a plan", Desks::tellPartOfPlan, PlacingDesk::run);
        twins.isNone("run", "a bad plan", Desks::tellBadPlan, PlacingDesk::run);
        twins.isNone("run", "an empty plan", Desks::tellMuch, PlacingDesk::run);
        twins.isNone("run", "a run whose feeder is gone", BoundsOfPromisesTest::tellNoFeeder,
                PlacingDesk::run);
        PlacingDesk ended = Desks.withRun();
        ended.feeder(0, NONE, 0);
        dues.due("a run at its end", ended.run(), NONE);
        dues.due("it stays", ended.told(0), 40);
    }

    private void runBeginsAnew() {
        dues.sentence("Promise 17", "(One that has come to its end begins anew.)");
        PlacingDesk desk = Desks.withRun();
        desk.miss(1);
        dues.due("anew", desk.run(), 42);
        dues.dueTold("anew", desk, 42, 3, 1, 2, 0, NONE, 1, 1);
        dues.due("parts are not", desk.slot(0, 1), 95);
        desk.feeder(0, 0, 0);
        dues.due("anew, and it stops at once", desk.run(), 0);
        dues.dueTold("anew, and it stops at once", desk, 0, 0, 0, 0, 0, 0, 0, 0);
        dues.dueStates("anew, and it stops at once", desk, 0, 0);
        PlacingDesk missing = Desks.ofOne(0, 0, 0, 0);
        missing.miss(1);
        missing.miss(2);
        missing.run();
        dues.dueStates("missing", missing, 2);
        missing.again(2);
        missing.run();
        dues.dueStates("not missing any more", missing, 1);
        dues.due("none missing", missing.told(4), 0);
        PlacingDesk overStop = Desks.of(2);
        overStop.feeder(0, 0, 1);
        Desks.planSingly(overStop);
        overStop.run();
        overStop.feeder(0, 0, 9);
        overStop.run();
        dues.dueTold("over a stop to its end", overStop, 60, 2, 0, 2, 0, NONE, 2, 1);
        dues.due("anew from the first tour", overStop.run(), 60);
        dues.dueTold("anew from the first tour", overStop, 60, 2, 0, 2, 0, NONE, 2, 1);
        PlacingDesk empty = new PlacingDesk();
        empty.run();
        dues.due("a run of nothing, anew", empty.run(), 0);
        dues.dueTold("a run of nothing", empty, 0, 0, 0, 0, 0, NONE, 0, 1);
    }

    // Promise 18

    private void told() {
        toldOfRun();
        placeForWhichItStopped();
        toldOfOthers();
        toldWithoutRun();
    }

    private void toldOfRun() {
        dues.sentence("Promise 18", "what 0 ticks, 1 TAKES, 2 MISSES, 3 PLACES SET, 4 MISSING");
        PlacingDesk stopped = new PlacingDesk();
        Desks.runTillStop(stopped);
        // Takes 1 and 2 miss in slot 1; slot 3, the camera and place 1; then it stops.
        int ticks = 20 + 4 + 4 + 7 + 40 + 4 + 139 + 6 + 174 + 5;
        dues.dueTold("stopped", stopped, ticks, 3, 2, 1, 2, 3, 2, 0);
        stopped.feeder(4, 2, 2);
        int on = 7 + 55 + 8 + 60 + 5 + 4 + 5;
        dues.due("on", stopped.run(), ticks + on);
        dues.dueTold("at its end", stopped, ticks + on, 5, 2, 3, 2, NONE, 3, 1);
    }

    private void placeForWhichItStopped() {
        dues.sentence("Promise 18", "5 the PLACE for which there was no SLOT as it STOPPED (NONE: it has "
                + "not)");
        dues.due("it has not", Desks.withRun().told(5), NONE);
        PlacingDesk desk = Desks.of(10);
        desk.machine(4, 2, 3, 4, 10);
        desk.feeder(0, 0, 0);
        Desks.plan(desk, 25, 8, 7, 6, 21, 4, 3, 2, 17, 0);
        desk.run();
        dues.due("for the first one of the plan", desk.told(5), 9);
        for (int parts = 1; parts <= 3; parts++) {
            desk.feeder(0, 0, parts);
            desk.run();
            dues.due("the first one without a part", desk.told(5), 9 - parts);
        }
        desk.feeder(0, 0, 9);
        desk.run();
        dues.due("for the last one of the plan", desk.told(5), 0);
        dues.due("two tours", desk.told(6), 2);
        desk.feeder(0, 0, 2);
        desk.run();
        dues.due("it has come to its end", desk.told(5), NONE);
    }

    private void toldOfOthers() {
        dues.sentence("Promise 18", "6 TOURS that were done, 7 whether it is at its end. NONE for others");
        for (int what : new int[] {-1, 8, LEAST, MOST}) {
            twins.isNone("told(" + what + ")", desk -> desk.told(what));
        }
        dues.due("0 is allowed", Desks.withRun().told(0), 40);
        dues.due("6 is allowed", Desks.withRun().told(6), 1);
        dues.due("7 is allowed", Desks.withRun().told(7), 1);
    }

    private void toldWithoutRun() {
        dues.sentence("Promise 18", "or without a RUN.");
        for (int number = 0; number <= 7; number++) {
            int what = number;
            twins.isNone("told(" + what + ")", "a new desk", desk -> { }, desk -> desk.told(what));
            twins.isNone("told(" + what + ")", "a good plan", Desks::tellGoodPlan,
                    desk -> desk.told(what));
        }
        PlacingDesk desk = Desks.withRun();
        desk.ticks();
        desk.good();
        dues.due("the run is there", desk.told(0), 40);
        desk.clear();
        dues.dueNoRun("clear", desk);
    }

    // Promise 19

    private void state() {
        stateInRun();
        stateOfNoPlace();
        stateWithoutRun();
    }

    private void stateInRun() {
        dues.sentence("Promise 19", "0 not reached, 1 SET, 2 MISSING");
        PlacingDesk desk = new PlacingDesk();
        Desks.runTillStop(desk);
        dues.dueStates("stopped", desk, 2, 1, 0, 0, 2);
        PlacingDesk full = new PlacingDesk();
        Desks.fillBoard(full);
        dues.dueStates("a full board", full, 1, 1, 1, 1, 1, 1, 1, 1, 1, 1);
    }

    private void stateOfNoPlace() {
        dues.sentence("Promise 19", "NONE: no such PLACE");
        for (int p : new int[] {-1, 10, 31, 32, 33, LEAST, MOST}) {
            twins.isNone("state(" + p + ")", desk -> desk.state(p));
        }
        twins.isNone("state(5)", "a run at its end", Desks::runToEnd, desk -> desk.state(5));
        for (int places = 0; places <= 10; places++) {
            PlacingDesk desk = Desks.of(places);
            Desks.planSingly(desk);
            desk.run();
            dues.due("the last of " + places, desk.state(places - 1), places == 0 ? NONE : 1);
            dues.due("one behind " + places, desk.state(places), NONE);
        }
    }

    private void stateWithoutRun() {
        dues.sentence("Promise 19", "no RUN.");
        for (int place = 0; place <= 4; place++) {
            int p = place;
            twins.isNone("state(" + p + ")", "a good plan", Desks::tellGoodPlan, desk -> desk.state(p));
        }
        PlacingDesk desk = Desks.withRun();
        dues.due("in the run", desk.state(0), 1);
        desk.late(1, 0);
        dues.due("the run is gone", desk.state(0), NONE);
    }

    // Promises 20, 21

    private void slot() {
        slotIsTold();
        slotOfOthers();
        noSuchSlot();
    }

    private void slotIsTold() {
        dues.sentence("Promise 20", "what 0 KIND (NONE: nothing), 1 parts");
        PlacingDesk desk = new PlacingDesk();
        for (int s = 0; s <= 7; s++) {
            dues.due("nothing", desk.slot(s, 0), NONE);
            dues.due("no parts", desk.slot(s, 1), 0);
            desk.feeder(s, 7 - s, 100 - s);
            dues.due("kind", desk.slot(s, 0), 7 - s);
            dues.due("parts", desk.slot(s, 1), 100 - s);
            desk.feeder(s, NONE, 100);
            dues.due("nothing any more", desk.slot(s, 0), NONE);
            dues.due("no parts any more", desk.slot(s, 1), 0);
        }
        dues.due("what a run took", Desks.withRun().slot(0, 1), 98);
    }

    private void slotOfOthers() {
        dues.sentence("Promise 20", "NONE for others");
        for (int what : new int[] {-1, 2, LEAST, MOST}) {
            for (int s : new int[] {0, 1, 7}) {
                twins.isNone("slot(" + s + ", " + what + ")", desk -> desk.slot(s, what));
            }
        }
    }

    private void noSuchSlot() {
        dues.sentence("Promise 20", "no such SLOT.");
        for (int s : new int[] {-1, 8, LEAST, MOST}) {
            for (int what = 0; what <= 1; what++) {
                int asked = what;
                twins.isNone("slot(" + s + ", " + what + ")", desk -> desk.slot(s, asked));
            }
        }
        PlacingDesk desk = new PlacingDesk();
        desk.feeder(0, 1, 2);
        desk.feeder(7, 3, 4);
        dues.due("slot 0", desk.slot(0, 0) + 10 * desk.slot(0, 1), 21);
        dues.due("slot 7", desk.slot(7, 0) + 10 * desk.slot(7, 1), 43);
    }

    private void count() {
        countOfDesk();
        countOfOthers();
    }

    private void countOfDesk() {
        dues.sentence("Promise 21", "0 PLACES, 1 of the PLAN, 2 TOURS of it, 3 NOZZLES, 4 pairs that "
                + "are AHEAD.");
        int[][] dueOf = {{0, 0, 0, 2, 0}, {5, 2, 1, 3, 3}, {5, 5, 3, 3, 3}, {5, 5, 3, 3, 3},
            {5, 5, 3, 3, 3}, {10, 10, 10, 3, 3}};
        int i = 0;
        for (var state : Desks.states().entrySet()) {
            PlacingDesk desk = new PlacingDesk();
            state.getValue().accept(desk);
            for (int what = 0; what <= 4; what++) {
                dues.due(state.getKey() + ": count(" + what + ")", desk.count(what), dueOf[i][what]);
            }
            i++;
        }
        PlacingDesk pairs = new PlacingDesk();
        pairs.kind(1, 1, 2, 0, false);
        pairs.place(50, 50, 0);
        pairs.place(53, 50, 1);
        dues.due("one by the heights", pairs.count(4), 1);
        dues.yes("told too", pairs.late(1, 0));
        dues.due("one still", pairs.count(4), 1);
        PlacingDesk first = Desks.of(3);
        first.late(0, 2);
        dues.due("the first place is late", first.count(4), 1);
        first.late(0, 1);
        dues.due("behind both", first.count(4), 2);
        first.late(2, 1);
        dues.due("three pairs", first.count(4), 3);
    }

    private void countOfOthers() {
        dues.sentence("Promise 21", "NONE for others.");
        for (int what : new int[] {-1, 5, LEAST, MOST}) {
            twins.isNone("count(" + what + ")", desk -> desk.count(what));
        }
    }
}
