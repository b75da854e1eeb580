import java.util.ArrayList;
import java.util.Arrays;
import java.util.List;
import java.util.Random;
import java.util.TreeMap;

/**
 * Long runs of calls, the same ones each time, on the class and on a model that follows the
 * document's sentences without any care for speed: THE BEST PLAN is looked for among all rows.
 */
public final class ModelTest {
    private static final int CALLS = 500;
    private static int wrong = 0;

    public static void main(String[] args) {
        int desks = 1500;
        for (int seed = 1; seed <= desks && wrong < 20; seed++) {
            compare(seed);
        }
        for (int seed = 1; seed <= 40 && wrong < 20; seed++) {
            compareBestOfSeven(seed);
        }
        System.out.println(wrong == 0 ? "class and model agree" : wrong + " answers differ");
        if (wrong != 0) {
            System.exit(1);
        }
    }

    private static void compare(int seed) {
        Random random = new Random(seed);
        PlacingDesk desk = new PlacingDesk();
        Model model = new Model();
        List<String> calls = new ArrayList<>();
        // Most desks stay at few places, as the model's search takes long.
        int mostPlaces = seed % 10 == 0 ? 10 : 2 + seed % 4;
        setUp(random, desk, model, mostPlaces);
        for (int i = 0; i < CALLS - 60; i++) {
            if (!sameAnswer(random, desk, model, mostPlaces, calls)) {
                wrong++;
                System.out.println("seed " + seed + ", call " + i + ": " + calls.get(calls.size() - 1));
                return;
            }
        }
    }

    /** Kinds and places close to one another, so that there is something ahead of something. */
    private static void setUp(Random random, PlacingDesk desk, Model model, int mostPlaces) {
        for (int k = 0; k < 8; k++) {
            int size = 1 + random.nextInt(4);
            int height = 1 + random.nextInt(3);
            int nozzle = random.nextInt(4) == 0 ? 1 + random.nextInt(2) : 0;
            boolean fine = random.nextInt(4) == 0;
            desk.kind(k, size, height, nozzle, fine);
            model.kind(k, size, height, nozzle, fine);
        }
        int spread = random.nextBoolean() ? 25 : 200;
        for (int i = 0; i < 30 && model.places.size() < mostPlaces; i++) {
            int x = random.nextInt(spread);
            int y = random.nextInt(spread);
            int kind = random.nextInt(3);
            if (desk.place(x, y, kind) != model.place(x, y, kind)) {
                wrong++;
                System.out.println("place differs in setting up");
            }
        }
        for (int s = 0; s < 8; s++) {
            int kind = random.nextInt(3);
            int parts = random.nextInt(6);
            desk.feeder(s, kind, parts);
            model.feeder(s, kind, parts);
        }
    }

    private static int number(boolean answer) {
        return answer ? 1 : 0;
    }

    private static boolean sameAnswer(Random random, PlacingDesk desk, Model model, int mostPlaces,
            List<String> calls) {
        int a = random.nextInt(12) - 1;
        int b = random.nextInt(12) - 1;
        int c = random.nextInt(12) - 1;
        boolean flag = random.nextInt(3) == 0;
        int got;
        int want;
        String call;
        switch (random.nextInt(40)) {
            case 0 -> {
                int nozzle = random.nextInt(5) - 1;
                call = "kind " + a + " " + b + " " + c + " " + nozzle + " " + flag;
                got = number(desk.kind(a, b, c, nozzle, flag));
                want = number(model.kind(a, b, c, nozzle, flag));
            }
            case 1 -> {
                if (model.places.size() >= mostPlaces && mostPlaces < 10) {
                    return true;
                }
                int x = random.nextInt(210) - 5;
                call = "place " + x + " " + b + " " + c;
                got = desk.place(x, b, c);
                want = model.place(x, b, c);
            }
            case 2 -> {
                call = "late " + a + " " + b;
                got = number(desk.late(a, b));
                want = number(model.late(a, b));
            }
            case 3, 4, 5 -> {
                int kind = random.nextInt(4) == 0 ? c : random.nextInt(3);
                int parts = random.nextInt(8) == 0 ? random.nextInt(120) - 10 : random.nextInt(6);
                call = "feeder " + a + " " + kind + " " + parts;
                got = number(desk.feeder(a, kind, parts));
                want = number(model.feeder(a, kind, parts));
            }
            case 6 -> {
                int change = random.nextInt(60) - 4;
                int nozzles = random.nextInt(6);
                call = "machine " + nozzles + " " + a + " " + b + " " + c + " " + change;
                got = number(desk.machine(nozzles, a, b, c, change));
                want = number(model.machine(nozzles, a, b, c, change));
            }
            case 7 -> {
                call = "ahead " + a + " " + b;
                got = desk.ahead(a, b);
                want = model.ahead(a, b);
            }
            case 8, 9 -> {
                call = "then " + a + " " + flag;
                got = desk.then(a, flag);
                want = model.then(a, flag);
            }
            case 10 -> {
                call = "clear and a row in some order";
                desk.clear();
                model.clear();
                got = 0;
                want = 0;
                for (int p : model.someOrder(random)) {
                    boolean begins = random.nextBoolean();
                    got += desk.then(p, begins);
                    want += model.then(p, begins);
                }
            }
            case 11, 12 -> {
                call = "good";
                got = desk.good();
                want = model.good();
            }
            case 13, 14 -> {
                call = "ticks";
                got = desk.ticks();
                want = model.ticks();
            }
            case 15, 16 -> {
                call = "best";
                got = desk.best();
                want = model.best();
            }
            case 17, 18, 19 -> {
                call = "plan " + a;
                got = desk.plan(a);
                want = model.plan(a);
            }
            case 20 -> {
                call = "lay";
                got = desk.lay();
                want = model.lay();
            }
            case 21 -> {
                int n = random.nextInt(5) == 0 ? random.nextInt(210) - 3 : random.nextInt(25);
                call = "miss " + n;
                got = number(desk.miss(n));
                want = number(model.miss(n));
            }
            case 22 -> {
                int n = random.nextInt(6) - 1;
                call = "again " + n;
                got = number(desk.again(n));
                want = number(model.again(n));
            }
            case 23, 24, 25, 26, 27 -> {
                call = "run";
                got = desk.run();
                want = model.run();
            }
            case 28, 29, 30, 31 -> {
                call = "told " + a;
                got = desk.told(a);
                want = model.told(a);
            }
            case 32, 33, 34 -> {
                call = "state " + a;
                got = desk.state(a);
                want = model.state(a);
            }
            case 35, 36, 37 -> {
                int what = random.nextInt(4) - 1;
                call = "slot " + a + " " + what;
                got = desk.slot(a, what);
                want = model.slot(a, what);
            }
            default -> {
                call = "count " + a;
                got = desk.count(a);
                want = model.count(a);
            }
        }
        calls.add(call + " answered " + got + ", due is " + want);
        return got == want;
    }

    private static void compareBestOfSeven(int seed) {
        Random random = new Random(1000 + seed);
        PlacingDesk desk = new PlacingDesk();
        Model model = new Model();
        setUp(random, desk, model, 6 + seed % 2);
        int nozzles = 1 + seed % 4;
        desk.machine(nozzles, 1, 1, 2, 5);
        model.machine(nozzles, 1, 1, 2, 5);
        int got = desk.best();
        int want = model.best();
        boolean same = got == want;
        for (int i = 0; i < 7; i++) {
            same &= desk.plan(i) == model.plan(i);
        }
        if (!same) {
            wrong++;
            System.out.println("best of seven, seed " + seed + ": " + got + ", due is " + want);
        }
    }

    private record Kind(int size, int height, int nozzle, boolean fine) {
    }

    private record Place(int x, int y, int kind) {
    }

    private record Step(int place, boolean begins) {
        int code() {
            return place + (begins ? 16 : 0);
        }
    }

    /** What the document says, sentence by sentence. */
    private static final class Model {
        final Kind[] kinds = new Kind[8];
        final List<Place> places = new ArrayList<>();
        final boolean[][] told = new boolean[10][10];
        final int[] slotKind = new int[8];
        final int[] slotParts = new int[8];
        int nozzles = 2, take = 2, set = 3, look = 4, change = 10;
        List<Step> plan = new ArrayList<>();
        final boolean[] misses = new boolean[201];
        int again = 1;
        boolean running, ended;
        int tourIndex, ticksSoFar, takes, missed, stoppedFor, headX, headY, headNozzle;
        int[] states = new int[10];

        Model() {
            Arrays.fill(kinds, new Kind(1, 1, 0, false));
            Arrays.fill(slotKind, -1);
        }

        boolean kind(int k, int size, int height, int nozzle, boolean fine) {
            boolean fits = k >= 0 && k < 8 && size >= 1 && size <= 20 && height >= 1 && height <= 9
                    && nozzle >= 0 && nozzle <= 2 && places.stream().noneMatch(p -> p.kind == k);
            if (fits) {
                kinds[k] = new Kind(size, height, nozzle, fine);
            }
            return fits;
        }

        Kind kindOf(int p) {
            return kinds[places.get(p).kind];
        }

        int sizes(int p, int q) {
            return kindOf(p).size + kindOf(q).size;
        }

        boolean overlap(int p, int q) {
            Place a = places.get(p);
            Place b = places.get(q);
            return Math.abs(a.x - b.x) < sizes(p, q) && Math.abs(a.y - b.y) < sizes(p, q);
        }

        boolean near(int p, int q) {
            Place a = places.get(p);
            Place b = places.get(q);
            return Math.abs(a.x - b.x) <= sizes(p, q) + 2 && Math.abs(a.y - b.y) <= sizes(p, q) + 2;
        }

        boolean isAhead(int p, int q) {
            return p != q && (told[q][p] || near(p, q) && kindOf(p).height < kindOf(q).height);
        }

        /** There is a ring if some places are left, of which each has another one ahead. */
        boolean hasRing() {
            List<Integer> left = new ArrayList<>();
            for (int p = 0; p < places.size(); p++) {
                left.add(p);
            }
            while (left.removeIf(p -> left.stream().noneMatch(q -> isAhead(q, p)))) {
                continue;
            }
            return !left.isEmpty();
        }

        void drop() {
            plan = new ArrayList<>();
            running = false;
        }

        int place(int x, int y, int kind) {
            if (x < 0 || x > 199 || y < 0 || y > 199 || kind < 0 || kind > 7 || places.size() == 10) {
                return -1;
            }
            int p = places.size();
            places.add(new Place(x, y, kind));
            boolean refused = hasRing();
            for (int q = 0; q < p; q++) {
                refused |= overlap(p, q);
            }
            if (refused) {
                places.remove(p);
                return -1;
            }
            drop();
            return p;
        }

        boolean isPlace(int p) {
            return p >= 0 && p < places.size();
        }

        boolean late(int p, int q) {
            if (!isPlace(p) || !isPlace(q) || p == q || told[p][q]) {
                return false;
            }
            told[p][q] = true;
            if (hasRing()) {
                told[p][q] = false;
                return false;
            }
            drop();
            return true;
        }

        boolean feeder(int s, int kind, int parts) {
            if (s < 0 || s > 7 || kind < -1 || kind > 7 || kind >= 0 && (parts < 0 || parts > 100)) {
                return false;
            }
            slotKind[s] = kind;
            slotParts[s] = kind < 0 ? 0 : parts;
            return true;
        }

        boolean machine(int nozzles, int take, int set, int look, int change) {
            if (nozzles < 1 || nozzles > 4 || take < 1 || take > 20 || set < 1 || set > 20
                    || look < 0 || look > 20 || change < 0 || change > 50) {
                return false;
            }
            this.nozzles = nozzles;
            this.take = take;
            this.set = set;
            this.look = look;
            this.change = change;
            drop();
            return true;
        }

        int ahead(int p, int q) {
            return !isPlace(p) || !isPlace(q) || p == q ? -1 : number(isAhead(p, q));
        }

        int then(int p, boolean begins) {
            if (!isPlace(p) || plan.stream().anyMatch(step -> step.place == p)) {
                return -1;
            }
            plan.add(new Step(p, begins || plan.isEmpty()));
            running = false;
            return plan.size();
        }

        void clear() {
            drop();
        }

        /** All places in an order that keeps what is ahead, mostly. */
        List<Integer> someOrder(Random random) {
            List<Integer> order = new ArrayList<>();
            for (int tries = 0; tries < 200 && order.size() < places.size(); tries++) {
                int p = random.nextInt(places.size());
                boolean free = !order.contains(p);
                for (int q = 0; q < places.size(); q++) {
                    free &= !isAhead(q, p) || order.contains(q);
                }
                if (free) {
                    order.add(p);
                }
            }
            return order;
        }

        List<List<Integer>> tours(List<Step> steps) {
            List<List<Integer>> tours = new ArrayList<>();
            for (Step step : steps) {
                if (step.begins) {
                    tours.add(new ArrayList<>());
                }
                tours.get(tours.size() - 1).add(step.place);
            }
            return tours;
        }

        int slotOf(int kind) {
            for (int s = 0; s < 8; s++) {
                if (slotKind[s] == kind) {
                    return s;
                }
            }
            return -1;
        }

        boolean isGood(List<Step> steps) {
            if (steps.size() != places.size()) {
                return false;
            }
            for (int i = 0; i < steps.size(); i++) {
                for (int j = i + 1; j < steps.size(); j++) {
                    if (isAhead(steps.get(j).place, steps.get(i).place)) {
                        return false;
                    }
                }
            }
            for (List<Integer> tour : tours(steps)) {
                if (tour.size() > nozzles
                        || tour.stream().map(p -> kindOf(p).nozzle).distinct().count() > 1) {
                    return false;
                }
            }
            return places.stream().allMatch(p -> slotOf(p.kind) >= 0);
        }

        int good() {
            return number(isGood(plan));
        }

        static int move(int x, int y, int toX, int toY) {
            return Math.max(Math.abs(x - toX), Math.abs(y - toY));
        }

        int ticksOf(List<Step> steps) {
            int x = 0, y = 0, nozzle = 0, sum = 0;
            for (List<Integer> tour : tours(steps)) {
                int wanted = kindOf(tour.get(0)).nozzle;
                sum += wanted == nozzle ? 0 : change;
                nozzle = wanted;
                TreeMap<Integer, Integer> takesOf = new TreeMap<>();
                int fines = 0;
                for (int p : tour) {
                    takesOf.merge(slotOf(places.get(p).kind), 1, Integer::sum);
                    fines += number(kindOf(p).fine);
                }
                for (int s : takesOf.keySet()) {
                    sum += move(x, y, 20 * s, 0) + take * takesOf.get(s);
                    x = 20 * s;
                    y = 0;
                }
                if (fines > 0) {
                    sum += move(x, y, 199, 0) + look * fines;
                    x = 199;
                }
                for (int p : tour) {
                    sum += move(x, y, places.get(p).x, places.get(p).y) + set;
                    x = places.get(p).x;
                    y = places.get(p).y;
                }
            }
            return sum;
        }

        int ticks() {
            return isGood(plan) ? ticksOf(plan) : -1;
        }

        private List<Step> bestSteps;
        private int bestTicks;

        int best() {
            if (places.isEmpty() || places.size() > 7) {
                return -1;
            }
            bestSteps = null;
            search(new ArrayList<>());
            if (bestSteps == null) {
                return -1;
            }
            plan = bestSteps;
            running = false;
            return bestTicks;
        }

        /** All rows, from the least on: the first of the fewest ticks stays. */
        private void search(List<Step> steps) {
            if (steps.size() == places.size()) {
                if (isGood(steps) && (bestSteps == null || ticksOf(steps) < bestTicks)) {
                    bestSteps = new ArrayList<>(steps);
                    bestTicks = ticksOf(steps);
                }
                return;
            }
            for (int code = steps.isEmpty() ? 16 : 0; code < 16 + places.size(); code++) {
                int p = code % 16;
                if (p >= places.size() || steps.stream().anyMatch(step -> step.place == p)) {
                    continue;
                }
                steps.add(new Step(p, code >= 16));
                search(steps);
                steps.remove(steps.size() - 1);
            }
        }

        int plan(int i) {
            return i < 0 || i >= plan.size() ? -1 : plan.get(i).code();
        }

        void swap(int s, int t) {
            int kind = slotKind[s];
            int parts = slotParts[s];
            slotKind[s] = slotKind[t];
            slotParts[s] = slotParts[t];
            slotKind[t] = kind;
            slotParts[t] = parts;
        }

        int lay() {
            if (!isGood(plan)) {
                return -1;
            }
            running = false;
            int exchanges = 0;
            while (true) {
                int before = ticksOf(plan);
                int fewest = Integer.MAX_VALUE, first = 0, second = 0;
                for (int s = 0; s < 7; s++) {
                    for (int t = s + 1; t < 8; t++) {
                        swap(s, t);
                        if (ticksOf(plan) < fewest) {
                            fewest = ticksOf(plan);
                            first = s;
                            second = t;
                        }
                        swap(s, t);
                    }
                }
                if (fewest >= before) {
                    return exchanges;
                }
                swap(first, second);
                exchanges++;
            }
        }

        boolean miss(int n) {
            if (n < 1 || n > 200 || misses[n]) {
                return false;
            }
            misses[n] = true;
            return true;
        }

        boolean again(int n) {
            if (n < 0 || n > 3) {
                return false;
            }
            again = n;
            return true;
        }

        int run() {
            if (!isGood(plan)) {
                return -1;
            }
            if (!running || ended) {
                running = true;
                ended = false;
                tourIndex = 0;
                ticksSoFar = 0;
                takes = 0;
                missed = 0;
                headX = 0;
                headY = 0;
                headNozzle = 0;
                states = new int[10];
            }
            stoppedFor = -1;
            List<List<Integer>> tours = tours(plan);
            while (tourIndex < tours.size() && stoppedFor < 0) {
                runTour(tours.get(tourIndex));
                if (stoppedFor < 0) {
                    tourIndex++;
                }
            }
            ended = stoppedFor < 0;
            return ticksSoFar;
        }

        boolean behindMissing(int p) {
            for (int q = 0; q < places.size(); q++) {
                if (told[p][q] && states[q] == 2) {
                    return true;
                }
            }
            return false;
        }

        void headTo(int x, int y) {
            ticksSoFar += move(headX, headY, x, y);
            headX = x;
            headY = y;
        }

        void runTour(List<Integer> tour) {
            List<Integer> wanted = new ArrayList<>();
            for (int p : tour) {
                if (behindMissing(p)) {
                    states[p] = 2;
                } else {
                    wanted.add(p);
                }
            }
            if (wanted.isEmpty()) {
                return;
            }
            TreeMap<Integer, List<Integer>> bySlot = new TreeMap<>();
            for (int p : wanted) {
                int found = -1;
                for (int s = 7; s >= 0; s--) {
                    int givenFor = bySlot.getOrDefault(s, List.of()).size();
                    if (slotKind[s] == places.get(p).kind && slotParts[s] > givenFor) {
                        found = s;
                    }
                }
                if (found < 0) {
                    stoppedFor = p;
                    return;
                }
                bySlot.computeIfAbsent(found, s -> new ArrayList<>()).add(p);
            }
            int nozzle = kindOf(tour.get(0)).nozzle;
            if (nozzle != headNozzle) {
                headNozzle = nozzle;
                ticksSoFar += change;
            }
            List<Integer> held = new ArrayList<>();
            for (int s : bySlot.keySet()) {
                headTo(20 * s, 0);
                for (int p : bySlot.get(s)) {
                    int left = again + 1;
                    boolean has = false;
                    while (!has && left > 0 && slotParts[s] > 0) {
                        takes++;
                        left--;
                        slotParts[s]--;
                        ticksSoFar += take;
                        has = !misses[takes];
                        missed += number(!has);
                    }
                    if (has) {
                        held.add(p);
                    } else {
                        states[p] = 2;
                    }
                }
            }
            long fines = held.stream().filter(p -> kindOf(p).fine).count();
            if (fines > 0) {
                headTo(199, 0);
                ticksSoFar += (int) fines * look;
            }
            for (int p : tour) {
                if (held.contains(p) && behindMissing(p)) {
                    states[p] = 2;
                } else if (held.contains(p)) {
                    headTo(places.get(p).x, places.get(p).y);
                    ticksSoFar += set;
                    states[p] = 1;
                }
            }
        }

        int told(int what) {
            if (!running) {
                return -1;
            }
            return switch (what) {
                case 0 -> ticksSoFar;
                case 1 -> takes;
                case 2 -> missed;
                case 3 -> (int) Arrays.stream(states).filter(s -> s == 1).count();
                case 4 -> (int) Arrays.stream(states).filter(s -> s == 2).count();
                case 5 -> stoppedFor;
                case 6 -> tourIndex;
                case 7 -> number(ended);
                default -> -1;
            };
        }

        int state(int p) {
            return running && isPlace(p) ? states[p] : -1;
        }

        int slot(int s, int what) {
            if (s < 0 || s > 7 || what < 0 || what > 1) {
                return -1;
            }
            return what == 0 ? slotKind[s] : slotParts[s];
        }

        int count(int what) {
            int pairs = 0;
            for (int p = 0; p < places.size(); p++) {
                for (int q = 0; q < places.size(); q++) {
                    pairs += number(isAhead(p, q));
                }
            }
            return switch (what) {
                case 0 -> places.size();
                case 1 -> plan.size();
                case 2 -> tours(plan).size();
                case 3 -> nozzles;
                case 4 -> pairs;
                default -> -1;
            };
        }
    }
}
