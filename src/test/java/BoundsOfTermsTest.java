/**
 * Each sentence of "What it is" and of "Terms" that names a bound, a first value, an edge or a case
 * of its own: the last that is allowed, the first that is not, on both sides where there are two.
 */
public final class BoundsOfTermsTest {
    private static final int NONE = PlacingDesk.NONE;
    private static final String HEAD = "What it is";
    private static final String TERMS = "Terms";

    private final Dues dues;
    private final Twins twins;

    private BoundsOfTermsTest(Dues dues) {
        this.dues = dues;
        this.twins = new Twins(dues);
    }

    public static void main(String[] args) throws Exception {
        Dues dues = new Dues();
        BoundsOfTermsTest test = new BoundsOfTermsTest(dues);
        test.beforeTheTerms();
        test.kindsAndPlaces();
        test.slotsAndMachine();
        test.plans();
        test.ticksOfPlans();
        test.bestPlans();
        test.laying();
        test.runs();
        test.takesOfRuns();
        test.endsOfTours();
        dues.end();
    }

    private void beforeTheTerms() {
        lastOf512Calls();
        manyRunsIn512Calls();
        memoryIsOwn();
        constants();
    }

    private void kindsAndPlaces() {
        kinds();
        size();
        height();
        nozzle();
        fine();
        placesAreNumbered();
        point();
        overlap();
        near();
        aheadByHeight();
        aheadByLate();
    }

    private void slotsAndMachine() {
        slots();
        parts();
        slotsAreEmpty();
        nozzles();
        take();
        set();
        look();
        change();
        machineAtFirst();
        camera();
        move();
    }

    private void plans() {
        firstBeginsTour();
        eachPlaceOnce();
        behindAllAhead();
        atMostNozzles();
        oneNozzle();
        eachKindHasFeeder();
        lowestSlot();
    }

    private void ticksOfPlans() {
        headAtFirst();
        changeOfNozzle();
        slotsOnce();
        someFine();
        orderOfPlan();
    }

    private void bestPlans() {
        bestOfSeven();
        leastOfLikeOnes();
    }

    private void laying() {
        exchangeOfLikeOnes();
        exchangeIfFewer();
        exchangeAgain();
        exchangeWithAll();
    }

    private void runs() {
        runFromBeginning();
        lateBehindMissing();
        noneWanted();
        slotsForWantedOnes();
        morePartsThanGiven();
        noSlotStops();
        goesOnFromThere();
    }

    private void takesOfRuns() {
        changeInRun();
        slotsOfRunOnce();
        takesLessenParts();
        again();
        noPartAnyMore();
        numbersOfTakes();
    }

    private void endsOfTours() {
        fineInRun();
        partIsLost();
        setInOrder();
    }

    // What it is

    private void lastOf512Calls() {
        dues.sentence(HEAD, "An object is used for at most 512 calls after it has been made");
        PlacingDesk desk = new PlacingDesk();
        dues.due("call 1", desk.place(10, 0, 0), 0);
        dues.yes("call 2", desk.feeder(0, 0, 100));
        for (int n = 1; n <= 200; n++) {
            dues.yes("miss once", desk.miss(n));
            dues.due("miss twice", desk.miss(n), false);
        }
        for (int call = 403; call <= 510; call += 4) {
            dues.due("call " + call, desk.then(0, false), 1);
            dues.due("call " + (call + 1), desk.then(0, false), NONE);
            dues.due("call " + (call + 2), desk.plan(0), 16);
            desk.clear();
        }
        dues.due("call 511", desk.then(0, false), 1);
        dues.due("call 512", desk.run(), 4);
    }

    private void manyRunsIn512Calls() {
        dues.sentence(HEAD, "at most 512 calls after it has been made");
        PlacingDesk desk = Desks.ofOne(10, 0, 0, 0);
        desk.feeder(0, 0, 100);
        for (int call = 5; call <= 512; call++) {
            dues.due("run, call " + call, desk.run(), call <= 104 ? 15 : 0);
        }
    }

    private void memoryIsOwn() {
        dues.sentence(TERMS, "All memory is the desk's own.");
        PlacingDesk one = new PlacingDesk();
        PlacingDesk other = new PlacingDesk();
        Desks.runTillStop(one);
        dues.due("no places", other.count(0), 0);
        dues.due("two nozzles", other.count(3), 2);
        dues.due("no feeder", other.slot(1, 0), NONE);
        dues.dueNoPlanNoRun("the other desk", other);
        dues.yes("take 2 was not told to it", other.miss(2));
        dues.due("its first place", other.place(20, 20, 1), 0);
        dues.due("its kind 1 has size 1", other.place(22, 20, 1), 1);
        other.feeder(1, 1, 7);
        dues.due("its best plan", other.best(), 20 + 4 + 20 + 3 + 2 + 3);
        dues.duePlan("its best plan", other, 16, 1);
        dues.due("the one desk stands where it stopped", one.told(5), 3);
        dues.duePlan("the one desk", one, 16, 4, 17, 18, 3);
        dues.due("its feeder", one.slot(1, 0), 0);
    }

    private void constants() {
        dues.sentence(TERMS, "`NONE = -1`: There is none.");
        dues.due("NONE", PlacingDesk.NONE, -1);
        dues.due("nothing in a slot", new PlacingDesk().slot(0, 0), -1);
    }

    // Terms, 1

    private void kinds() {
        dues.sentence(TERMS, "KINDS 0 to 7 of parts");
        for (int k : new int[] {0, 7}) {
            PlacingDesk desk = new PlacingDesk();
            dues.yes("kind(" + k + ")", desk.kind(k, 2, 2, 1, true));
            dues.due("place of " + k, desk.place(50, 50, k), 0);
            dues.yes("feeder of " + k, desk.feeder(0, k, 1));
            dues.due("slot of " + k, desk.slot(0, 0), k);
        }
        for (int k : new int[] {-1, 8, Integer.MIN_VALUE, Integer.MAX_VALUE, 256, -8}) {
            twins.isFalse("kind(" + k + ")", desk -> desk.kind(k, 2, 2, 1, true));
            twins.isNone("place(199, 0, " + k + ")", desk -> desk.place(199, 0, k));
            if (k != NONE) {
                twins.isFalse("feeder(0, " + k + ")", desk -> desk.feeder(0, k, 1));
            }
        }
    }

    /** Whether kinds 5 of this size and 6 of another size may be this far from one another. */
    private static boolean fits(int size, int other, int away) {
        PlacingDesk desk = new PlacingDesk();
        desk.kind(5, size, 1, 0, false);
        desk.kind(6, other, 1, 0, false);
        desk.place(50, 50, 5);
        return desk.place(50 + away, 50, 6) == 1;
    }

    private void size() {
        dues.sentence(TERMS, "each with a SIZE (1 to 20: half its side)");
        dues.yes("size 1", new PlacingDesk().kind(5, 1, 2, 1, true));
        dues.yes("size 20", new PlacingDesk().kind(5, 20, 2, 1, true));
        dues.due("1 and 1 at 1", fits(1, 1, 1), false);
        dues.due("1 and 1 at 2", fits(1, 1, 2), true);
        dues.due("20 and 20 at 39", fits(20, 20, 39), false);
        dues.due("20 and 20 at 40", fits(20, 20, 40), true);
        for (int size : new int[] {0, 21, -1, Integer.MIN_VALUE, Integer.MAX_VALUE}) {
            twins.isFalse("size " + size, desk -> desk.kind(5, size, 9, 2, true));
        }
    }

    /** Whether a part of the one height is ahead of one of the other height, beside it. */
    private static boolean isAhead(int height, int other) {
        PlacingDesk desk = new PlacingDesk();
        desk.kind(5, 1, height, 0, false);
        desk.kind(6, 1, other, 0, false);
        desk.place(50, 50, 5);
        desk.place(52, 50, 6);
        return desk.ahead(0, 1) == 1;
    }

    private void height() {
        dues.sentence(TERMS, "a HEIGHT (1 to 9)");
        dues.yes("height 1", new PlacingDesk().kind(5, 2, 1, 1, true));
        dues.yes("height 9", new PlacingDesk().kind(5, 2, 9, 1, true));
        for (int height = 1; height <= 9; height++) {
            for (int other = 1; other <= 9; other++) {
                dues.due(height + " ahead of " + other, isAhead(height, other), height < other);
            }
        }
        for (int height : new int[] {0, 10, -1, Integer.MIN_VALUE, Integer.MAX_VALUE}) {
            twins.isFalse("height " + height, desk -> desk.kind(5, 20, height, 2, true));
        }
    }

    private void nozzle() {
        dues.sentence(TERMS, "a NOZZLE (0 to 2)");
        for (int nozzle = 0; nozzle <= 2; nozzle++) {
            PlacingDesk desk = new PlacingDesk();
            dues.yes("nozzle " + nozzle, desk.kind(5, 1, 1, nozzle, false));
            desk.place(10, 0, 5);
            desk.feeder(0, 5, 1);
            desk.then(0, true);
            dues.due("ticks with nozzle " + nozzle, desk.ticks(), (nozzle == 0 ? 0 : 10) + 2 + 10 + 3);
        }
        for (int nozzle : new int[] {-1, 3, Integer.MIN_VALUE, Integer.MAX_VALUE}) {
            twins.isFalse("nozzle " + nozzle, desk -> desk.kind(5, 20, 9, nozzle, true));
        }
    }

    private void fine() {
        dues.sentence(TERMS, "FINE or not");
        for (boolean fine : new boolean[] {false, true}) {
            PlacingDesk desk = new PlacingDesk();
            dues.yes("fine " + fine, desk.kind(5, 1, 1, 0, fine));
            desk.place(10, 0, 5);
            desk.feeder(0, 5, 1);
            desk.then(0, true);
            dues.due("ticks, fine " + fine, desk.ticks(), fine ? 2 + 199 + 4 + 189 + 3 : 2 + 10 + 3);
        }
    }

    private void placesAreNumbered() {
        dues.sentence(TERMS, "PLACES 0 to 9, numbered as they come");
        PlacingDesk desk = new PlacingDesk();
        for (int p = 0; p <= 9; p++) {
            dues.due("place " + p, desk.place(20 * p, 0, p % 8), p);
            dues.due("the same point", desk.place(20 * p, 0, p % 8), NONE);
            dues.due("count(0)", desk.count(0), p + 1);
        }
        dues.due("no place 10", desk.place(0, 100, 0), NONE);
        dues.due("ten", desk.count(0), 10);
        twins.isNone("place 10", "ten places", Desks::fillBoard, full -> full.place(199, 0, 7));
    }

    private void point() {
        dues.sentence(TERMS, "at a point (x, y, each 0 to 199)");
        int[] edges = {0, 199};
        for (int x : edges) {
            for (int y : edges) {
                PlacingDesk desk = Desks.ofOne(x, y, 0, 0);
                dues.due("place(" + x + ", " + y + ")", desk.count(0), 1);
                dues.due("its way", desk.ticks(), 2 + Math.max(x, y) + 3);
            }
        }
        for (int wrong : new int[] {-1, 200, Integer.MIN_VALUE, Integer.MAX_VALUE}) {
            twins.isNone("place(" + wrong + ", 199)", desk -> desk.place(wrong, 199, 7));
            twins.isNone("place(199, " + wrong + ")", desk -> desk.place(199, wrong, 7));
            twins.isNone("place(" + wrong + ", 0)", desk -> desk.place(wrong, 0, 7));
            twins.isNone("place(0, " + wrong + ")", desk -> desk.place(0, wrong, 7));
        }
    }

    /** A place of kind 0, of the size given, at (100, 100); kind 1 of the other size and height. */
    private static PlacingDesk deskAround(int size, int height, int other, int otherHeight) {
        PlacingDesk desk = new PlacingDesk();
        desk.kind(0, size, height, 0, false);
        desk.kind(1, other, otherHeight, 0, false);
        desk.place(100, 100, 0);
        return desk;
    }

    private static final int[][] SIZES = {{1, 1}, {1, 20}, {20, 1}, {20, 20}, {7, 5}};

    private void overlap() {
        dues.sentence(TERMS, "Two PLACES OVERLAP if both |dx| and |dy| are below the sum of their "
                + "SIZES: no two may.");
        for (int[] sizes : SIZES) {
            int sum = sizes[0] + sizes[1];
            int[] ways = {-sum - 1, -sum, 1 - sum, -1, 0, 1, sum - 1, sum, sum + 1};
            for (int dx : ways) {
                for (int dy : ways) {
                    PlacingDesk desk = deskAround(sizes[0], 1, sizes[1], 1);
                    boolean overlaps = Math.abs(dx) < sum && Math.abs(dy) < sum;
                    String call = "sum " + sum + ", place at " + dx + ", " + dy;
                    dues.due(call, desk.place(100 + dx, 100 + dy, 1), overlaps ? NONE : 1);
                    dues.due(call + ": count(0)", desk.count(0), overlaps ? 1 : 2);
                }
            }
        }
    }

    private void near() {
        dues.sentence(TERMS, "They are NEAR if both are not above that sum and 2.");
        for (int[] sizes : SIZES) {
            int sum = sizes[0] + sizes[1];
            int[] ways = {-sum - 3, -sum - 2, -sum, 0, sum, sum + 2, sum + 3};
            for (int dx : ways) {
                for (int dy : ways) {
                    if (dx != 0 || dy != 0) {
                        nearAt(sizes, dx, dy);
                    }
                }
            }
        }
    }

    private void nearAt(int[] sizes, int dx, int dy) {
        int most = sizes[0] + sizes[1] + 2;
        int isNear = Math.abs(dx) <= most && Math.abs(dy) <= most ? 1 : 0;
        String call = "sizes " + sizes[0] + " and " + sizes[1] + ", place at " + dx + ", " + dy;
        PlacingDesk higher = deskAround(sizes[0], 1, sizes[1], 2);
        dues.due(call + " higher", higher.place(100 + dx, 100 + dy, 1), 1);
        dues.due(call + " higher: ahead(0, 1)", higher.ahead(0, 1), isNear);
        dues.due(call + " higher: ahead(1, 0)", higher.ahead(1, 0), 0);
        PlacingDesk lower = deskAround(sizes[0], 2, sizes[1], 1);
        dues.due(call + " lower", lower.place(100 + dx, 100 + dy, 1), 1);
        dues.due(call + " lower: ahead(0, 1)", lower.ahead(0, 1), 0);
        dues.due(call + " lower: ahead(1, 0)", lower.ahead(1, 0), isNear);
    }

    private void aheadByHeight() {
        dues.sentence(TERMS, "A PLACE is AHEAD of another one if they are NEAR and it has the lesser "
                + "HEIGHT");
        for (int height = 1; height <= 8; height++) {
            PlacingDesk desk = deskAround(1, height, 1, height + 1);
            desk.place(104, 100, 1);
            desk.place(96, 100, 0);
            desk.place(100, 96, 0);
            dues.due("one less", desk.ahead(0, 1), 1);
            dues.due("one more", desk.ahead(1, 0), 0);
            dues.due("like ones", desk.ahead(0, 2), 0);
            dues.due("like ones, turned", desk.ahead(2, 0), 0);
            dues.due("near by both", desk.ahead(3, 1), 1);
            dues.due("not near", desk.ahead(2, 1), 0);
            dues.due("pairs", desk.count(4), 2);
        }
        PlacingDesk between = deskAround(1, 5, 1, 4);
        between.place(106, 100, 0);
        between.place(103, 100, 1);
        dues.due("lower than both beside it: the first", between.ahead(2, 0), 1);
        dues.due("lower than both beside it: the second", between.ahead(2, 1), 1);
        dues.due("two pairs", between.count(4), 2);
        PlacingDesk higher = deskAround(1, 5, 1, 6);
        higher.place(106, 100, 0);
        higher.place(103, 100, 1);
        dues.due("higher than both beside it: the first", higher.ahead(0, 2), 1);
        dues.due("higher than both beside it: the second", higher.ahead(1, 2), 1);
    }

    private void aheadByLate() {
        dues.sentence(TERMS, "or if it was told that the other one is LATE (behind it).");
        PlacingDesk desk = Desks.of(3);
        dues.due("not told", desk.ahead(2, 0), 0);
        dues.yes("late(0, 2)", desk.late(0, 2));
        dues.due("ahead(2, 0)", desk.ahead(2, 0), 1);
        dues.due("ahead(0, 2)", desk.ahead(0, 2), 0);
        dues.due("ahead(1, 0)", desk.ahead(1, 0), 0);
        PlacingDesk highAhead = new PlacingDesk();
        highAhead.kind(1, 1, 9, 0, false);
        highAhead.place(50, 50, 1);
        highAhead.place(55, 50, 0);
        dues.yes("the low one behind the high one, not near", highAhead.late(1, 0));
        dues.due("the high one is ahead", highAhead.ahead(0, 1), 1);
    }

    private void slots() {
        dues.sentence(TERMS, "SLOTS 0 to 7 lie at the points (20 s, 0)");
        for (int s = 0; s <= 7; s++) {
            dues.due("from slot " + s + " back", Desks.ofOne(0, 0, 0, s).ticks(), 40 * s + 5);
            dues.due("from slot " + s + " up", Desks.ofOne(20 * s, 150, 0, s).ticks(), 20 * s + 155);
            dues.due("a run from slot " + s, Desks.ofOne(0, 0, 0, s).run(), 40 * s + 5);
            dues.due("best from slot " + s, Desks.ofOne(20 * s, 150, 0, s).best(), 20 * s + 155);
        }
        for (int s : new int[] {-1, 8, Integer.MIN_VALUE, Integer.MAX_VALUE}) {
            twins.isFalse("feeder(" + s + ", 0, 1)", desk -> desk.feeder(s, 0, 1));
            twins.isFalse("feeder(" + s + ", NONE, 1)", desk -> desk.feeder(s, NONE, 1));
            twins.isNone("slot(" + s + ", 0)", desk -> desk.slot(s, 0));
            twins.isNone("slot(" + s + ", 1)", desk -> desk.slot(s, 1));
        }
    }

    private void parts() {
        dues.sentence(TERMS, "a FEEDER of a KIND with some parts (0 to 100)");
        for (int parts : new int[] {0, 1, 99, 100}) {
            PlacingDesk desk = new PlacingDesk();
            dues.yes("feeder with " + parts, desk.feeder(7, 7, parts));
            dues.due("its kind", desk.slot(7, 0), 7);
            dues.due("its parts", desk.slot(7, 1), parts);
        }
        for (int parts : new int[] {-1, 101, Integer.MIN_VALUE, Integer.MAX_VALUE}) {
            for (int s : new int[] {0, 1, 4, 7}) {
                twins.isFalse("feeder(" + s + ", 0, " + parts + ")", desk -> desk.feeder(s, 0, parts));
            }
        }
    }

    private void slotsAreEmpty() {
        dues.sentence(TERMS, "or nothing.");
        PlacingDesk desk = Desks.ofOne(0, 0, 0, 3);
        dues.due("a feeder", desk.good(), 1);
        dues.yes("nothing", desk.feeder(3, NONE, 5));
        dues.due("nothing: good", desk.good(), 0);
        dues.due("nothing: slot(3, 0)", desk.slot(3, 0), NONE);
        dues.due("nothing: slot(3, 1)", desk.slot(3, 1), 0);
        dues.yes("nothing again", desk.feeder(3, NONE, 5));
    }

    /** One fine place of nozzle 1 on the camera's point, in slot 0. */
    private static PlacingDesk deskForMachine() {
        PlacingDesk desk = new PlacingDesk();
        desk.kind(1, 1, 1, 1, true);
        desk.place(199, 0, 1);
        desk.feeder(0, 1, 9);
        return desk;
    }

    private void dueMachine(String call, int take, int set, int look, int change) {
        PlacingDesk desk = deskForMachine();
        dues.yes(call, desk.machine(1, take, set, look, change));
        desk.then(0, true);
        int ticks = change + take + 199 + look + set;
        dues.due(call + ": ticks", desk.ticks(), ticks);
        dues.due(call + ": run", desk.run(), ticks);
        dues.due(call + ": best", desk.best(), ticks);
    }

    private interface MachineOf {
        boolean told(PlacingDesk desk, int number);
    }

    private void refuseMachine(String call, MachineOf machine, int... wrong) {
        for (int number : wrong) {
            twins.isFalse(call + " " + number, desk -> machine.told(desk, number));
        }
        twins.isFalse(call + " least", desk -> machine.told(desk, Integer.MIN_VALUE));
        twins.isFalse(call + " most", desk -> machine.told(desk, Integer.MAX_VALUE));
    }

    private void nozzles() {
        dues.sentence(TERMS, "a HEAD with N NOZZLES (1 to 4; 2 at first)");
        dues.due("at first", new PlacingDesk().count(3), 2);
        PlacingDesk atFirst = Desks.of(3);
        Desks.plan(atFirst, 16, 1, 18);
        dues.due("two in a tour at first", atFirst.good(), 1);
        Desks.plan(atFirst, 16, 1, 2);
        dues.due("three in a tour at first", atFirst.good(), 0);
        for (int nozzles = 1; nozzles <= 4; nozzles++) {
            PlacingDesk desk = new PlacingDesk();
            dues.yes("machine(" + nozzles + ")", desk.machine(nozzles, 2, 3, 4, 10));
            dues.due("count(3)", desk.count(3), nozzles);
        }
        refuseMachine("nozzles", (desk, n) -> desk.machine(n, 20, 20, 20, 50), 0, 5, -1);
    }

    private void take() {
        dues.sentence(TERMS, "ticks for a TAKE (1 to 20)");
        dueMachine("take 1", 1, 7, 8, 9);
        dueMachine("take 20", 20, 7, 8, 9);
        refuseMachine("take", (desk, n) -> desk.machine(4, n, 20, 20, 50), 0, 21, -1);
    }

    private void set() {
        dues.sentence(TERMS, "a SET (1 to 20)");
        dueMachine("set 1", 6, 1, 8, 9);
        dueMachine("set 20", 6, 20, 8, 9);
        refuseMachine("set", (desk, n) -> desk.machine(4, 20, n, 20, 50), 0, 21, -1);
    }

    private void look() {
        dues.sentence(TERMS, "a LOOK (0 to 20)");
        dueMachine("look 0", 6, 7, 0, 9);
        dueMachine("look 20", 6, 7, 20, 9);
        refuseMachine("look", (desk, n) -> desk.machine(4, 20, 20, n, 50), -1, 21);
    }

    private void change() {
        dues.sentence(TERMS, "a CHANGE of NOZZLES (0 to 50)");
        dueMachine("change 0", 6, 7, 8, 0);
        dueMachine("change 50", 6, 7, 8, 50);
        refuseMachine("change", (desk, n) -> desk.machine(4, 20, 20, 20, n), -1, 51);
    }

    private void machineAtFirst() {
        dues.sentence(TERMS, "2, 3, 4, 10 at first");
        PlacingDesk desk = new PlacingDesk();
        desk.kind(1, 1, 1, 1, true);
        desk.place(0, 0, 0);
        desk.place(199, 0, 1);
        desk.place(199, 2, 1);
        desk.feeder(0, 0, 9);
        desk.feeder(1, 1, 9);
        Desks.plan(desk, 16, 17, 2);
        int ticks = 2 + 3 + 10 + 20 + 2 + 2 + 179 + 4 + 4 + 3 + 2 + 3;
        dues.due("ticks", desk.ticks(), ticks);
        dues.due("run", desk.run(), ticks);
        dues.due("best", desk.best(), ticks);
    }

    private void camera() {
        dues.sentence(TERMS, "the CAMERA is at (199, 0)");
        int[][] points = {{199, 0}, {198, 0}, {199, 1}, {0, 199}, {199, 199}};
        for (int[] point : points) {
            PlacingDesk desk = new PlacingDesk();
            desk.kind(0, 1, 1, 0, true);
            desk.place(point[0], point[1], 0);
            desk.feeder(0, 0, 9);
            desk.then(0, true);
            int ticks = 2 + 199 + 4 + Math.max(199 - point[0], point[1]) + 3;
            String call = "camera to " + point[0] + ", " + point[1];
            dues.due(call, desk.ticks(), ticks);
            dues.due(call + ": run", desk.run(), ticks);
            dues.due(call + ": best", desk.best(), ticks);
        }
    }

    private void move() {
        dues.sentence(TERMS, "A MOVE from point to point takes the greater of |dx| and |dy|, ticks.");
        int[][] points = {{103, 109}, {109, 103}, {105, 105}, {97, 91}, {91, 97}, {100, 96}, {104, 100}};
        for (int[] point : points) {
            PlacingDesk desk = new PlacingDesk();
            desk.place(100, 100, 0);
            desk.place(point[0], point[1], 0);
            desk.feeder(0, 0, 9);
            Desks.plan(desk, 16, 1);
            int way = Math.max(Math.abs(point[0] - 100), Math.abs(point[1] - 100));
            String call = "to " + point[0] + ", " + point[1];
            dues.due(call, desk.ticks(), 4 + 100 + 3 + way + 3);
            dues.due(call + ": run", desk.run(), 4 + 100 + 3 + way + 3);
        }
    }

    // Terms, 2: plans

    private void firstBeginsTour() {
        dues.sentence(TERMS, "each with whether a TOUR begins with it (with the first one does)");
        PlacingDesk desk = Desks.of(3);
        desk.then(2, false);
        dues.duePlan("the first one, not told so", desk, 18);
        dues.due("one tour", desk.count(2), 1);
        desk.then(1, false);
        dues.duePlan("the second one", desk, 18, 1);
        dues.due("one tour still", desk.count(2), 1);
        desk.then(0, true);
        dues.duePlan("the third one begins", desk, 18, 1, 16);
        dues.due("two tours", desk.count(2), 2);
        desk.clear();
        desk.then(0, false);
        dues.duePlan("the first one behind clear", desk, 16);
        desk.clear();
        desk.then(1, true);
        dues.duePlan("the first one, told so", desk, 17);
    }

    private void eachPlaceOnce() {
        dues.sentence(TERMS, "It is GOOD if each PLACE is in it once");
        dues.due("no places, nothing in it", new PlacingDesk().good(), 1);
        for (int places = 1; places <= 10; places++) {
            PlacingDesk desk = Desks.of(places);
            dues.due("none of " + places, desk.good(), 0);
            for (int p = places - 1; p > 0; p--) {
                desk.then(p, true);
            }
            dues.due("one less than " + places, desk.good(), 0);
            dues.due("not twice", desk.then(places - 1, true), places == 1 ? 1 : NONE);
            desk.then(0, true);
            dues.due("all of " + places, desk.good(), 1);
        }
    }

    private void behindAllAhead() {
        dues.sentence(TERMS, "each behind all that are AHEAD of it");
        PlacingDesk desk = Desks.of(3);
        desk.late(0, 1);
        desk.late(0, 2);
        int[][] rows = {{16, 17, 18}, {17, 16, 18}, {18, 16, 17}, {16, 1, 18}, {17, 0, 18}, {18, 0, 17}};
        for (int[] codes : rows) {
            Desks.plan(desk, codes);
            dues.due("not behind both", desk.good(), 0);
        }
        int[][] goodRows = {{17, 18, 16}, {18, 17, 16}, {17, 2, 16}, {17, 18, 0}, {18, 17, 0}};
        for (int[] codes : goodRows) {
            Desks.plan(desk, codes);
            dues.due("behind both", desk.good(), 1);
        }
        PlacingDesk heights = new PlacingDesk();
        heights.kind(1, 1, 2, 0, false);
        heights.place(50, 50, 1);
        heights.place(54, 50, 0);
        heights.place(45, 50, 0);
        heights.feeder(0, 0, 1);
        heights.feeder(1, 1, 1);
        Desks.plan(heights, 16, 17, 18);
        dues.due("the lower one behind the higher one", heights.good(), 0);
        Desks.plan(heights, 17, 16, 18);
        dues.due("the lower one that is not near may be behind", heights.good(), 1);
    }

    private void atMostNozzles() {
        dues.sentence(TERMS, "each TOUR has at most N");
        for (int nozzles = 1; nozzles <= 4; nozzles++) {
            for (int ahead = 0; ahead <= 2; ahead++) {
                for (int more = 0; more <= 1; more++) {
                    PlacingDesk desk = Desks.of(ahead + nozzles + more + 1);
                    desk.machine(nozzles, 2, 3, 4, 10);
                    int last = desk.count(0) - 1;
                    for (int p = 0; p <= last; p++) {
                        desk.then(p, p <= ahead || p == last);
                    }
                    String call = nozzles + more + " with " + nozzles + " nozzles behind " + ahead;
                    dues.due(call, desk.good(), 1 - more);
                }
            }
        }
    }

    private void oneNozzle() {
        dues.sentence(TERMS, "of KINDS of one NOZZLE");
        PlacingDesk desk = new PlacingDesk();
        desk.machine(3, 2, 3, 4, 10);
        int[] nozzles = {0, 0, 1, 1, 2};
        for (int k = 0; k < 5; k++) {
            desk.kind(k, 1, 1, nozzles[k], false);
            desk.place(10 + 20 * k, 10, k);
            desk.feeder(k, k, 1);
        }
        int[][] goodRows = {{16, 1, 18, 3, 20}, {16, 17, 18, 19, 20}, {20, 17, 0, 19, 2}};
        for (int[] codes : goodRows) {
            Desks.plan(desk, codes);
            dues.due("two kinds of one nozzle in a tour", desk.good(), 1);
        }
        int[][] rows = {{16, 2, 17, 19, 20}, {16, 1, 2, 19, 20}, {16, 17, 18, 19, 4},
            {16, 17, 18, 20, 3}, {16, 2, 1, 19, 20}, {16, 17, 20, 2, 19}};
        for (int[] codes : rows) {
            Desks.plan(desk, codes);
            dues.due("two nozzles in a tour", desk.good(), 0);
        }
    }

    private void eachKindHasFeeder() {
        dues.sentence(TERMS, "each KIND has a SLOT with a FEEDER of it (however many parts are in it).");
        PlacingDesk desk = Desks.of(1);
        desk.place(100, 100, 7);
        Desks.planSingly(desk);
        dues.due("none for one kind", desk.good(), 0);
        for (int s = 0; s <= 7; s++) {
            desk.feeder(0, 0, 0);
            desk.feeder(s, 7, 0);
            dues.due("no parts in slot " + s, desk.good(), s == 0 ? 0 : 1);
            desk.feeder(s, 7, 100);
            dues.due("100 parts in slot " + s, desk.good(), s == 0 ? 0 : 1);
            desk.feeder(s, 6, 100);
            dues.due("another kind in slot " + s, desk.good(), 0);
            desk.feeder(s, NONE, 0);
        }
        PlacingDesk first = Desks.of(1);
        first.feeder(0, NONE, 0);
        Desks.planSingly(first);
        dues.due("nothing is no feeder of kind 0", first.good(), 0);
        dues.due("of the kinds of places alone", Desks.withRun().good(), 1);
    }

    private void lowestSlot() {
        dues.sentence(TERMS, "THE SLOT of a KIND is the lowest such.");
        PlacingDesk desk = Desks.ofOne(0, 0, 0, 7);
        dues.due("slot 7", desk.ticks(), 285);
        for (int s = 6; s >= 0; s--) {
            desk.feeder(s, 0, 0);
            dues.due("slot " + s + ", without parts", desk.ticks(), 40 * s + 5);
            dues.due("best with slot " + s, desk.best(), 40 * s + 5);
        }
        for (int s = 0; s <= 6; s++) {
            desk.feeder(s, s % 2 == 0 ? 1 : NONE, 9);
            dues.due("slot " + (s + 1), desk.ticks(), 40 * (s + 1) + 5);
        }
    }

    private void headAtFirst() {
        dues.sentence(TERMS, "the HEAD is at (0, 0) and has NOZZLE 0 at first.");
        PlacingDesk desk = Desks.ofOne(199, 199, 0, 1);
        dues.due("first", desk.ticks(), 20 + 2 + 199 + 3);
        dues.due("and each time", desk.ticks(), 20 + 2 + 199 + 3);
        desk.run();
        dues.due("behind a run too", desk.ticks(), 20 + 2 + 199 + 3);
        dues.due("best", desk.best(), 20 + 2 + 199 + 3);
        PlacingDesk nozzle = new PlacingDesk();
        nozzle.kind(0, 1, 1, 2, false);
        nozzle.place(0, 0, 0);
        nozzle.feeder(0, 0, 9);
        nozzle.then(0, true);
        dues.due("a change at first", nozzle.ticks(), 15);
        dues.due("a change each time", nozzle.ticks(), 15);
        dues.due("best: a change", nozzle.best(), 15);
        nozzle.run();
        dues.due("a change behind a run", nozzle.ticks(), 15);
        dues.due("a change in another run", nozzle.run(), 15);
    }

    private void changeOfNozzle() {
        dues.sentence(TERMS, "Each TOUR: if its NOZZLE is another one: a CHANGE.");
        int[][] rows = {{0, 0, 0}, {1, 0, 2}, {2, 1, 2}, {0, 1, 2}, {1, 1, 1}, {0, 0, 1}, {0, 1, 0},
            {2, 2, 0}};
        for (int[] nozzles : rows) {
            PlacingDesk desk = new PlacingDesk();
            int changes = 0;
            for (int k = 0; k < 3; k++) {
                desk.kind(k, 1, 1, nozzles[k], false);
                desk.place(0, 10 * k, k);
                desk.feeder(0, 0, 9);
                changes += nozzles[k] != (k == 0 ? 0 : nozzles[k - 1]) ? 1 : 0;
            }
            desk.feeder(1, 1, 9);
            desk.feeder(2, 2, 9);
            Desks.planSingly(desk);
            int ways = 0 + 0 + 20 + 20 + 40 + 40;
            dues.due("changes " + changes, desk.ticks(), ways + 15 + 10 * changes);
        }
    }

    private void slotsOnce() {
        dues.sentence(TERMS, "each of these SLOTS once, from the lowest to the highest; at each as many "
                + "TAKES as PLACES want its KIND.");
        PlacingDesk desk = new PlacingDesk();
        desk.machine(4, 2, 3, 4, 10);
        int[] kinds = {2, 1, 2, 1};
        for (int p = 0; p < 4; p++) {
            desk.place(100, 10 * p, kinds[p]);
        }
        desk.feeder(3, 2, 9);
        desk.feeder(6, 1, 9);
        Desks.plan(desk, 16, 1, 2, 3);
        int sets = 4 * 3 + 3 * 10;
        dues.due("slots 3 and 6", desk.ticks(), 60 + 4 + 60 + 4 + 20 + sets);
        dues.due("a run too", desk.run(), 60 + 4 + 60 + 4 + 20 + sets);
        desk.feeder(0, 1, 9);
        dues.due("slots 0 and 3", desk.ticks(), 4 + 60 + 4 + 40 + sets);
        desk.feeder(1, 2, 9);
        dues.due("slots 0 and 1", desk.ticks(), 4 + 20 + 4 + 80 + sets);
    }

    private void someFine() {
        dues.sentence(TERMS, "If some are FINE: a MOVE to the CAMERA, and a LOOK for each FINE one.");
        for (int fines = 0; fines <= 3; fines++) {
            PlacingDesk desk = new PlacingDesk();
            desk.machine(3, 2, 3, 4, 10);
            desk.kind(1, 1, 1, 0, true);
            for (int p = 0; p < 3; p++) {
                desk.place(100, 10 * p, p < fines ? 1 : 0);
            }
            desk.feeder(0, 0, 9);
            desk.feeder(1, 1, 9);
            Desks.plan(desk, 18, 1, 0);
            int toSlot = fines == 0 ? 0 : 20;
            int toPlace = fines == 0 ? 100 : 179 + 4 * fines + 99;
            dues.due("fine ones: " + fines, desk.ticks(), toSlot + 6 + toPlace + 20 + 9);
            dues.due("fine ones in a run: " + fines, desk.run(), toSlot + 6 + toPlace + 20 + 9);
        }
    }

    private void orderOfPlan() {
        dues.sentence(TERMS, "Then in the order of the PLAN: a MOVE to the PLACE, a SET.");
        PlacingDesk desk = new PlacingDesk();
        desk.machine(3, 2, 3, 4, 10);
        desk.place(10, 0, 0);
        desk.place(30, 0, 0);
        desk.place(60, 0, 0);
        desk.feeder(0, 0, 90);
        int[][] rows = {{16, 1, 2, 60}, {16, 2, 1, 90}, {17, 0, 2, 100}, {17, 2, 0, 110},
            {18, 0, 1, 130}, {18, 1, 0, 110}};
        for (int[] row : rows) {
            Desks.plan(desk, row[0], row[1], row[2]);
            dues.due("ticks", desk.ticks(), row[3] + 15);
            dues.due("run", desk.run(), row[3] + 15);
        }
    }

    private void bestOfSeven() {
        dues.sentence(TERMS, "THE BEST PLAN, of at most 7 PLACES");
        for (int places = 1; places <= 7; places++) {
            PlacingDesk desk = Desks.of(places);
            int ticks = desk.best();
            dues.yes("best of " + places, ticks > 0);
            dues.due("it is the plan", desk.ticks(), ticks);
            dues.due("all are in it", desk.count(1), places);
        }
        dues.due("best of none", new PlacingDesk().best(), NONE);
        for (int nozzles = 1; nozzles <= 4; nozzles++) {
            PlacingDesk desk = Desks.of(5);
            desk.machine(nozzles, 2, 3, 4, 10);
            int[] ways = {2 * (10 + 30 + 50 + 70) + 90, 10 + 10 + 50 + 50 + 90, 30 + 30 + 90, 10 + 10 + 90};
            dues.due("tours of " + nozzles, desk.best(), ways[nozzles - 1] + 25);
            dues.due("their number", desk.count(2), new int[] {5, 3, 2, 2}[nozzles - 1]);
        }
        PlacingDesk late = Desks.of(4);
        late.machine(4, 2, 3, 4, 10);
        for (int p = 1; p <= 3; p++) {
            late.late(0, p);
        }
        dues.due("the first place last in a tour of four", late.best(), 30 + 20 + 20 + 60 + 20);
        dues.duePlan("the first place last in a tour of four", late, 17, 2, 3, 0);
        for (int places = 8; places <= 10; places++) {
            dues.due("best of " + places, Desks.of(places).best(), NONE);
        }
    }

    private void leastOfLikeOnes() {
        dues.sentence(TERMS, "of like ones the least: row against row, PLACE by PLACE, each counting as "
                + "its number, and 16 more if a TOUR begins with it.");
        PlacingDesk pair = new PlacingDesk();
        pair.place(10, 100, 0);
        pair.place(30, 100, 0);
        pair.feeder(0, 0, 9);
        pair.best();
        dues.duePlan("0, 1 and 1, 0 are alike", pair, 16, 1);
        PlacingDesk free = new PlacingDesk();
        free.place(0, 0, 0);
        free.place(2, 0, 0);
        free.feeder(0, 0, 9);
        dues.due("one tour or two are alike", free.best(), 12);
        dues.duePlan("1 is less than 17", free, 16, 1);
        PlacingDesk triple = new PlacingDesk();
        triple.place(0, 10, 0);
        triple.place(10, 0, 0);
        triple.place(10, 10, 0);
        triple.feeder(0, 0, 9);
        // Each way is 10 ticks long: two tours, of which the first has two places or one.
        dues.due("three of like ways", triple.best(), 10 + 10 + 10 + 10 + 15);
        dues.duePlan("three of like ways", triple, 16, 1, 18);
        PlacingDesk seven = new PlacingDesk();
        seven.machine(1, 2, 3, 4, 10);
        int[][] points = {{10, 0}, {10, 3}, {10, 6}, {10, 9}, {0, 10}, {3, 10}, {6, 10}};
        for (int[] point : points) {
            seven.place(point[0], point[1], 0);
        }
        seven.feeder(0, 0, 9);
        dues.due("all orders of seven are alike", seven.best(), 13 * 10 + 7 * 5);
        dues.duePlan("all orders of seven are alike", seven, 16, 17, 18, 19, 20, 21, 22);
        seven.late(0, 6);
        dues.due("all orders with one late are alike", seven.best(), 13 * 10 + 7 * 5);
        dues.duePlan("all orders with one late are alike", seven, 17, 18, 19, 20, 21, 22, 16);
    }

    // Terms, 2: to lay

    private void exchangeOfLikeOnes() {
        dues.sentence(TERMS, "(of like ones the lower first SLOT, then the lower second one)");
        // Slots 0 to 3 lie on the way to (60, 0): from each of them it is as long.
        PlacingDesk first = Desks.ofOne(60, 0, 0, 7);
        dues.due("140 and back", first.ticks(), 140 + 80 + 5);
        dues.due("one exchange", first.lay(), 1);
        dues.due("slot 0, the lowest of like ones", first.slot(0, 0), 0);
        dues.due("slot 7 has nothing", first.slot(7, 0), NONE);
        dues.due("60", first.ticks(), 65);
        // Slot 0 may have the feeder of slot 1 or that of slot 2: 1 is lower.
        PlacingDesk both = new PlacingDesk();
        both.place(0, 0, 1);
        both.feeder(0, 5, 1);
        both.feeder(1, 1, 2);
        both.feeder(2, 1, 3);
        both.then(0, true);
        dues.due("one exchange with slot 0", both.lay(), 1);
        dues.due("slot 0 has that of slot 1", both.slot(0, 1), 2);
        dues.due("slot 1 has that of slot 0", both.slot(1, 0), 5);
        dues.due("slot 2 stays", both.slot(2, 1), 3);
        // Slots 4 and 7: kind 0 from slot 5; slots 5 and 6: kind 1 from slot 5; 240 both.
        PlacingDesk crossed = new PlacingDesk();
        crossed.place(140, 40, 0);
        crossed.place(100, 0, 1);
        crossed.place(60, 40, 0);
        crossed.feeder(4, 0, 1);
        crossed.feeder(5, 0, 2);
        crossed.feeder(6, 1, 3);
        Desks.planSingly(crossed);
        dues.due("ways of 260", crossed.ticks(), 80 + 60 + 40 + 20 + 20 + 40 + 15);
        dues.due("one exchange of two like ones", crossed.lay(), 1);
        dues.due("ways of 240", crossed.ticks(), 100 + 40 + 40 + 20 + 0 + 40 + 15);
        dues.due("the lower first slot, 4", crossed.slot(4, 0), NONE);
        dues.due("with the higher second one, 7", crossed.slot(7, 1), 1);
        dues.due("slot 5 stays", crossed.slot(5, 1), 2);
        dues.due("slot 6 stays", crossed.slot(6, 1), 3);
    }

    private void exchangeIfFewer() {
        dues.sentence(TERMS, "is made, if they are fewer than before");
        PlacingDesk like = Desks.ofOne(100, 0, 0, 5);
        dues.due("no slot on the way is better", like.lay(), 0);
        dues.due("it stays in slot 5", like.slot(5, 0), 0);
        PlacingDesk fewer = Desks.ofOne(99, 0, 0, 5);
        dues.due("one tick fewer", fewer.lay(), 1);
        dues.due("it is in slot 0", fewer.slot(0, 0), 0);
        dues.due("no places", new PlacingDesk().lay(), 0);
    }

    private void exchangeAgain() {
        dues.sentence(TERMS, "again and again, till none lessens them.");
        PlacingDesk desk = new PlacingDesk();
        for (int k = 0; k < 3; k++) {
            desk.place(0, 4 * k, k);
            desk.feeder(5 + k, k, 9);
        }
        Desks.planSingly(desk);
        int before = desk.ticks();
        int exchanges = desk.lay();
        dues.yes("more than one", exchanges > 1);
        dues.yes("fewer ticks", desk.ticks() < before);
        dues.due("none more", desk.lay(), 0);
        dues.yes("all lie low", desk.slot(0, 0) >= 0 && desk.slot(1, 0) >= 0 && desk.slot(2, 0) >= 0);
    }

    private void exchangeWithAll() {
        dues.sentence(TERMS, "of all exchanges of two SLOTS (with all that is in them)");
        PlacingDesk desk = new PlacingDesk();
        desk.place(0, 0, 0);
        desk.feeder(0, 3, 0);
        desk.feeder(7, 0, 100);
        desk.then(0, true);
        dues.due("slots 0 and 7", desk.lay(), 1);
        dues.due("kind in 0", desk.slot(0, 0), 0);
        dues.due("parts in 0", desk.slot(0, 1), 100);
        dues.due("kind in 7", desk.slot(7, 0), 3);
        dues.due("parts in 7", desk.slot(7, 1), 0);
    }

    // Terms, 3: a run

    private void runFromBeginning() {
        dues.sentence(TERMS, "no PLACE is reached at first, the HEAD is at (0, 0) with NOZZLE 0.");
        PlacingDesk desk = Desks.of(3);
        desk.feeder(0, 0, 0);
        Desks.planSingly(desk);
        dues.due("it stops at once", desk.run(), 0);
        dues.dueStates("not reached", desk, 0, 0, 0);
        PlacingDesk twice = new PlacingDesk();
        twice.kind(1, 1, 1, 1, false);
        twice.place(100, 0, 1);
        twice.feeder(1, 1, 9);
        twice.then(0, true);
        dues.due("from (0, 0) with nozzle 0", twice.run(), 10 + 20 + 2 + 80 + 3);
        dues.due("anew from (0, 0) with nozzle 0", twice.run(), 10 + 20 + 2 + 80 + 3);
    }

    private void lateBehindMissing() {
        dues.sentence(TERMS, "(1) a PLACE that is LATE behind a MISSING one is MISSING; the others are "
                + "WANTED");
        PlacingDesk desk = Desks.of(4);
        desk.late(2, 0);
        desk.late(3, 1);
        desk.again(0);
        desk.miss(1);
        Desks.plan(desk, 16, 1, 18, 3);
        // Take 1 for place 0 misses; 2 is late behind it, 3 is late behind one that is set.
        dues.due("run", desk.run(), 4 + 30 + 3 + 30 + 2 + 70 + 3);
        dues.dueStates("late behind missing and behind set", desk, 2, 1, 2, 1);
        dues.due("takes", desk.told(1), 3);
        for (int take = 1; take <= 2; take++) {
            PlacingDesk both = Desks.of(3);
            both.late(2, 0);
            both.late(2, 1);
            both.again(0);
            both.miss(take);
            Desks.planSingly(both);
            both.run();
            dues.dueStates("late behind two", both, take == 1 ? 2 : 1, take == 2 ? 2 : 1, 2);
        }
    }

    private void slotsForWantedOnes() {
        dues.sentence(TERMS, "(2) Each WANTED PLACE, in the order of the PLAN, is given a SLOT");
        PlacingDesk some = new PlacingDesk();
        some.place(10, 10, 0);
        some.place(30, 10, 1);
        some.place(50, 10, 0);
        some.feeder(0, 0, 9);
        some.feeder(7, 1, 0);
        some.late(1, 0);
        some.again(0);
        some.miss(1);
        Desks.plan(some, 16, 17, 2);
        dues.due("no part, no way for one that is not wanted", some.run(), 2 + 2 + 50 + 3);
        dues.dueTold("no stop for it", some, 57, 2, 1, 1, 2, NONE, 2, 1);
        some.feeder(7, 1, 9);
        dues.due("nor a way to its slot", some.run(), 2 + 2 + 50 + 3);
    }

    private void noneWanted() {
        dues.sentence(TERMS, "if there are none, nothing more is done for it.");
        PlacingDesk desk = new PlacingDesk();
        desk.kind(1, 1, 1, 1, true);
        desk.place(10, 10, 0);
        desk.place(30, 10, 1);
        desk.place(50, 10, 1);
        desk.place(70, 10, 0);
        desk.feeder(0, 0, 9);
        desk.feeder(1, 1, 0);
        desk.late(1, 0);
        desk.late(2, 0);
        desk.again(0);
        desk.miss(1);
        Desks.plan(desk, 16, 17, 2, 19);
        dues.due("no change, no way, no stop for parts", desk.run(), 2 + 2 + 70 + 3);
        dues.dueTold("at its end", desk, 77, 2, 1, 1, 3, NONE, 3, 1);
    }

    /** Places of kind 0 in one tour of a machine of four nozzles. */
    private static PlacingDesk deskOfOneTour(int places) {
        PlacingDesk desk = Desks.of(places);
        desk.machine(4, 2, 3, 4, 10);
        for (int p = 0; p < places; p++) {
            desk.then(p, false);
        }
        return desk;
    }

    private void morePartsThanGiven() {
        dues.sentence(TERMS, "the lowest with a FEEDER of its KIND and more parts than it was given for "
                + "in this TOUR so far.");
        for (int parts = 0; parts <= 4; parts++) {
            PlacingDesk desk = deskOfOneTour(4);
            desk.feeder(0, 0, parts);
            desk.feeder(1, 1, 100);
            desk.feeder(2, 0, 100);
            desk.run();
            dues.due("of slot 0 with " + parts, desk.slot(0, 1), 0);
            dues.due("of slot 1", desk.slot(1, 1), 100);
            dues.due("of slot 2", desk.slot(2, 1), 96 + parts);
        }
        PlacingDesk next = Desks.of(2);
        next.feeder(0, 0, 1);
        next.feeder(2, 0, 1);
        Desks.planSingly(next);
        dues.due("the next tour finds it empty", next.run(), 2 + 10 + 3 + 30 + 2 + 10 + 3);
    }

    private void noSlotStops() {
        dues.sentence(TERMS, "If there is none for one, the RUN STOPS ahead of (2)");
        for (int parts = 0; parts <= 4; parts++) {
            PlacingDesk desk = deskOfOneTour(4);
            desk.feeder(0, 0, parts);
            int ticks = parts < 4 ? 0 : 8 + 10 + 3 * 20 + 4 * 3;
            dues.due(parts + " parts for four", desk.run(), ticks);
            dues.due("stopped for", desk.told(5), parts < 4 ? parts : NONE);
            dues.due("at its end", desk.told(7), parts < 4 ? 0 : 1);
            dues.due("nothing is taken", desk.slot(0, 1), parts < 4 ? parts : 0);
        }
        PlacingDesk two = Desks.of(2);
        two.feeder(0, 0, 1);
        two.feeder(1, 0, 1);
        Desks.plan(two, 16, 1);
        two.run();
        dues.due("enough in two slots", two.told(7), 1);
    }

    private void goesOnFromThere() {
        dues.sentence(TERMS, "it can go on from there.");
        PlacingDesk desk = Desks.of(2);
        desk.feeder(0, 0, 1);
        Desks.planSingly(desk);
        dues.due("stops in the second tour", desk.run(), 15);
        dues.dueTold("stopped", desk, 15, 1, 0, 1, 0, 1, 1, 0);
        dues.due("without a part it stays", desk.run(), 15);
        dues.dueTold("stopped again", desk, 15, 1, 0, 1, 0, 1, 1, 0);
        desk.feeder(3, 0, 1);
        dues.due("on from (10, 10) to slot 3", desk.run(), 15 + 50 + 2 + 30 + 3);
        dues.dueTold("gone on", desk, 100, 2, 0, 2, 0, NONE, 2, 1);
    }

    private void changeInRun() {
        dues.sentence(TERMS, "(3) If its NOZZLE is another one, a CHANGE.");
        for (int nozzle = 0; nozzle <= 2; nozzle++) {
            PlacingDesk desk = new PlacingDesk();
            desk.kind(0, 1, 1, nozzle, false);
            desk.kind(1, 1, 1, nozzle, false);
            desk.kind(2, 1, 1, 1, false);
            desk.place(0, 0, 0);
            desk.place(20, 0, 1);
            desk.place(40, 0, 2);
            for (int k = 0; k < 3; k++) {
                desk.feeder(k, k, 9);
            }
            Desks.planSingly(desk);
            int changes = (nozzle == 0 ? 0 : 1) + (nozzle == 1 ? 0 : 1);
            dues.due("nozzle " + nozzle, desk.run(), 15 + 40 + 10 * changes);
        }
    }

    private void slotsOfRunOnce() {
        dues.sentence(TERMS, "MOVES to the SLOTS given, each once, from the lowest to the highest; in "
                + "each, for its PLACES in the order of the PLAN, a TAKE");
        PlacingDesk desk = new PlacingDesk();
        desk.machine(4, 2, 3, 4, 10);
        int[] kinds = {1, 0, 1, 0};
        for (int p = 0; p < 4; p++) {
            desk.place(100, 10 * p, kinds[p]);
        }
        desk.feeder(2, 0, 9);
        desk.feeder(4, 1, 9);
        desk.again(0);
        desk.miss(2);
        Desks.plan(desk, 16, 3, 2, 1);
        // Takes: slot 2 for 3, then 1 (misses); slot 4 for 0, then 2.
        dues.due("run", desk.run(), 40 + 4 + 40 + 4 + 20 + 3 + 30 + 3 + 10 + 3);
        dues.dueStates("the second take misses", desk, 1, 2, 1, 1);
    }

    private void takesLessenParts() {
        dues.sentence(TERMS, "by which the SLOT has a part less; one that MISSES loses it, and is done "
                + "again");
        PlacingDesk desk = Desks.ofOne(0, 0, 0, 0);
        dues.due("one take", desk.run(), 5);
        dues.due("a part less", desk.slot(0, 1), 8);
        desk.miss(1);
        dues.due("two takes", desk.run(), 7);
        dues.due("two parts less", desk.slot(0, 1), 6);
        dues.dueStates("it is set", desk, 1);
        PlacingDesk last = Desks.ofOne(0, 0, 0, 0);
        last.feeder(0, 0, 1);
        dues.due("the last part", last.run(), 5);
        dues.due("no part", last.slot(0, 1), 0);
    }

    private void again() {
        dues.sentence(TERMS, "at most AGAIN (0 to 3; 1 at first) times for a PLACE.");
        for (int n = NONE; n <= 3; n++) {
            int tries = n == NONE ? 2 : n + 1;
            for (int misses = 0; misses <= 5; misses++) {
                PlacingDesk desk = Desks.ofOne(0, 0, 0, 0);
                if (n != NONE) {
                    dues.yes("again(" + n + ")", desk.again(n));
                }
                for (int take = 1; take <= misses; take++) {
                    desk.miss(take);
                }
                String call = "again " + n + ", misses " + misses;
                int takes = Math.min(tries, misses + 1);
                desk.run();
                dues.due(call + ": takes", desk.told(1), takes);
                dues.due(call + ": misses", desk.told(2), Math.min(misses, takes));
                dues.dueStates(call, desk, misses < tries ? 1 : 2);
                dues.due(call + ": ticks", desk.told(0), 2 * takes + (misses < tries ? 3 : 0));
            }
        }
        for (int n : new int[] {-1, 4, Integer.MIN_VALUE, Integer.MAX_VALUE}) {
            twins.isFalse("again(" + n + ")", desk -> desk.again(n));
        }
    }

    private void noPartAnyMore() {
        dues.sentence(TERMS, "If the SLOT has no part (any more), or all MISS, the PLACE is MISSING.");
        for (int parts = 2; parts <= 5; parts++) {
            PlacingDesk desk = Desks.of(2);
            desk.feeder(0, 0, parts);
            desk.feeder(1, 0, 9);
            desk.again(3);
            desk.miss(1);
            desk.miss(2);
            Desks.plan(desk, 16, 1);
            desk.run();
            // Three takes for place 0 if there are as many parts, then one for place 1.
            dues.due("takes of " + parts, desk.told(1), Math.min(parts, 4));
            dues.dueStates("with " + parts, desk, parts < 3 ? 2 : 1, parts < 4 ? 2 : 1);
            dues.due("none is left of " + parts, desk.slot(0, 1), parts == 5 ? 1 : 0);
            dues.due("slot 1 was not given", desk.slot(1, 1), 9);
        }
        PlacingDesk all = Desks.ofOne(0, 0, 0, 0);
        all.miss(1);
        all.miss(2);
        all.run();
        dues.dueStates("all miss", all, 2);
        dues.due("parts are left", all.slot(0, 1), 7);
    }

    private void numbersOfTakes() {
        dues.sentence(TERMS, "MISSES are told by the numbers of TAKES in a RUN (from 1 on; those that "
                + "are done again count).");
        PlacingDesk desk = Desks.of(3);
        desk.miss(1);
        desk.miss(3);
        Desks.planSingly(desk);
        // Takes 1, 2 for place 0, 3, 4 for place 1, 5 for place 2.
        desk.run();
        dues.dueTold("takes that are done again count", desk, 2 * 5 + 10 + 10 + 30 + 30 + 50 + 9, 5, 2, 3,
                0, NONE, 3, 1);
        desk.run();
        dues.due("in another run from 1 on", desk.told(2), 2);
        PlacingDesk stopped = Desks.of(2);
        stopped.feeder(0, 0, 1);
        stopped.again(0);
        stopped.miss(2);
        Desks.planSingly(stopped);
        stopped.run();
        stopped.feeder(0, 0, 1);
        stopped.run();
        dues.dueStates("numbers go on over a stop", stopped, 1, 2);
        oddTakesMiss();
    }

    /** Ten places, of which each has two takes: 20 in each run. */
    private void oddTakesMiss() {
        PlacingDesk desk = Desks.of(10);
        for (int n = 1; n <= 199; n += 2) {
            desk.miss(n);
        }
        Desks.planSingly(desk);
        for (int run = 0; run < 5; run++) {
            desk.run();
            dues.due("takes", desk.told(1), 20);
            dues.due("misses", desk.told(2), 10);
            dues.due("set", desk.told(3), 10);
        }
        dues.due("no parts", desk.slot(0, 1), 0);
    }

    private void fineInRun() {
        dues.sentence(TERMS, "(4) If some that have their part are FINE, a MOVE to the CAMERA, a LOOK "
                + "for each of these.");
        for (int misses = 0; misses <= 3; misses++) {
            PlacingDesk desk = new PlacingDesk();
            desk.machine(3, 2, 3, 4, 10);
            desk.kind(1, 1, 1, 0, true);
            desk.place(100, 0, 1);
            desk.place(100, 10, 1);
            desk.place(100, 20, 0);
            desk.feeder(0, 1, 9);
            desk.feeder(1, 0, 9);
            desk.again(0);
            for (int take = 1; take <= misses; take++) {
                desk.miss(take);
            }
            Desks.plan(desk, 16, 1, 2);
            int way = new int[] {179 + 8 + 99 + 20 + 9, 179 + 4 + 99 + 10 + 6, 80 + 3, 0}[misses];
            dues.due("fine ones that miss: " + misses, desk.run(), 20 + 6 + way);
        }
    }

    private void partIsLost() {
        dues.sentence(TERMS, "one that is LATE behind a MISSING one is MISSING (its part is lost)");
        PlacingDesk desk = Desks.of(3);
        desk.machine(3, 2, 3, 4, 10);
        desk.late(1, 0);
        desk.late(2, 1);
        desk.again(0);
        desk.miss(1);
        Desks.plan(desk, 16, 1, 2);
        dues.due("all have gone", desk.run(), 6);
        dues.dueTold("lost", desk, 6, 3, 1, 0, 3, NONE, 1, 1);
        dues.due("three parts less", desk.slot(0, 1), 97);
        PlacingDesk fine = new PlacingDesk();
        fine.kind(0, 1, 1, 0, true);
        fine.place(100, 0, 0);
        fine.place(100, 10, 0);
        fine.feeder(0, 0, 9);
        fine.late(1, 0);
        fine.again(0);
        fine.miss(1);
        Desks.plan(fine, 16, 1);
        dues.due("it is looked at, and then lost", fine.run(), 4 + 199 + 4);
        dues.dueStates("both are missing", fine, 2, 2);
    }

    private void setInOrder() {
        dues.sentence(TERMS, "else a MOVE to the PLACE, a SET: it is SET.");
        PlacingDesk desk = Desks.of(3);
        desk.machine(3, 2, 3, 4, 10);
        desk.late(1, 0);
        desk.again(0);
        desk.miss(3);
        Desks.plan(desk, 18, 0, 1);
        dues.due("2, 0, and not 1", desk.run(), 6 + 50 + 3 + 40 + 3);
        dues.dueStates("two are set", desk, 1, 2, 1);
        PlacingDesk behind = Desks.of(2);
        behind.late(1, 0);
        behind.again(0);
        behind.miss(2);
        Desks.plan(behind, 16, 1);
        dues.due("the one ahead is set", behind.run(), 4 + 10 + 3);
        dues.dueStates("the late one misses itself", behind, 1, 2);
    }
}
