import java.util.Arrays;

/**
 * Triangulations of a convex polygon that are changed by flips: a present one and a goal. A
 * triangulation is held as its mask: the bit k stands for the diagonal with the number k.
 */
public final class FlipPolygons {
    public static final int NONE = -1;

    private static final int PRESENT = 0;
    private static final int GOAL = 1;

    private static final int LEAST_CORNERS = 4;
    private static final int MOST_CORNERS = 9;
    private static final int FIRST_CORNERS = 6;
    private static final int MOST_TURN = 8;
    private static final int MOST_WALK = 20;
    private static final int MOST_SAVED = 6;
    private static final int SNAPSHOTS = 2;
    private static final int LEAST_CODE = 33;
    private static final int MOST_CODE = 126;

    private static final int COUNTS = 10;
    private static final int TRIANGULATION_NUMBERS = 7;
    private static final int DISTANCES = 6;
    private static final long FIRST_HASH = 2477L;

    private static final int MOST_TRIANGULATIONS = 429;

    // By the number of corners, from 4 on. They are written out because finding them anew costs
    // more than all else together; the tests find them anew.
    private static final int[] TRIANGULATIONS = {2, 5, 14, 42, 132, 429};
    private static final int[] CLASSES = {1, 1, 3, 4, 12, 27};
    private static final int[] DIAMETERS = {1, 2, 4, 5, 7, 9};

    private final FlipGraph[] graphs;
    private final State now;
    private final State[] saved;
    private int savedStates;
    private final State[] snapshots;
    private final Text text;
    private final Reach fromPresent;
    private final Reach fromGoal;
    private final Reach fromGoalWithLocks;
    private final Reach fromPart;
    private final int[] parts;

    public FlipPolygons() {
        graphs = new FlipGraph[MOST_CORNERS - LEAST_CORNERS + 1];
        for (int at = 0; at < graphs.length; at++) {
            graphs[at] = new FlipGraph(new Polygon(LEAST_CORNERS + at));
        }
        int first = FIRST_CORNERS - LEAST_CORNERS;
        buildUpTo(graphs, first);
        now = new State();
        now.startWith(graphs[first]);
        saved = new State[MOST_SAVED];
        for (int at = 0; at < saved.length; at++) {
            saved[at] = new State();
        }
        snapshots = new State[SNAPSHOTS];
        for (int at = 0; at < snapshots.length; at++) {
            snapshots[at] = new State();
        }
        text = new Text();
        fromPresent = new Reach(graphs[0]);
        fromGoal = new Reach(graphs[0]);
        fromGoalWithLocks = new Reach(graphs[0]);
        fromPart = new Reach(graphs[0]);
        parts = new int[MOST_CORNERS - 2];
    }

    // ---- polygon, triangulations, locks

    public int begin(int n) throws IllegalArgumentException {
        int at = n - LEAST_CORNERS;
        if (n < LEAST_CORNERS || n > MOST_CORNERS || at >= graphs.length) {
            throw new IllegalArgumentException("n is out of range");
        }
        saveState();
        int before = now.graph.polygon.corners;
        buildUpTo(graphs, at);
        now.startWith(graphs[at]);
        return before;
    }

    public int flip(int which, int a, int b)
            throws IndexOutOfBoundsException, IllegalStateException {
        int diagonal = now.graph.polygon.numberOf(a, b);
        if (!isWhich(which) || diagonal == NONE) {
            throw new IndexOutOfBoundsException("no such triangulation or diagonal");
        }
        if (!isIn(now.mask(which), diagonal) || (which == PRESENT && isIn(now.locks, diagonal))) {
            throw new IllegalStateException("the diagonal is not there, or is locked");
        }
        saveState();
        return makeFlip(which, diagonal);
    }

    public int fan(int which, int corner) throws IndexOutOfBoundsException {
        if (!isWhich(which) || !now.graph.polygon.isCorner(corner)) {
            throw new IndexOutOfBoundsException("no such triangulation or corner");
        }
        saveState();
        int mask = now.graph.polygon.fanOf(corner);
        int before = Integer.bitCount(now.mask(which) & mask);
        putNew(which, mask);
        return before;
    }

    public int turn(int which, int k) throws IndexOutOfBoundsException, IllegalArgumentException {
        if (!isWhich(which)) {
            throw new IndexOutOfBoundsException("no such triangulation");
        }
        if (k < 0 || k > MOST_TURN) {
            throw new IllegalArgumentException("k is out of range");
        }
        saveState();
        Polygon polygon = now.graph.polygon;
        now.put(which, polygon.turnedBy(now.mask(which), k));
        if (which == PRESENT) {
            now.locks = polygon.turnedBy(now.locks, k);
        }
        return now.mask(which);
    }

    public int mirror(int which) throws IndexOutOfBoundsException {
        if (!isWhich(which)) {
            throw new IndexOutOfBoundsException("no such triangulation");
        }
        saveState();
        Polygon polygon = now.graph.polygon;
        now.put(which, polygon.mirrored(now.mask(which)));
        if (which == PRESENT) {
            now.locks = polygon.mirrored(now.locks);
        }
        return now.mask(which);
    }

    public int exchange() {
        saveState();
        int goal = now.goal;
        now.goal = now.present;
        now.present = goal;
        now.locks = 0;
        return now.present;
    }

    public int lock(int a, int b, boolean is)
            throws IndexOutOfBoundsException, IllegalStateException {
        int diagonal = now.graph.polygon.numberOf(a, b);
        if (diagonal == NONE) {
            throw new IndexOutOfBoundsException("no such diagonal");
        }
        if (!isIn(now.present, diagonal)) {
            throw new IllegalStateException("the diagonal is not there");
        }
        saveState();
        int bit = 1 << diagonal;
        now.locks = is ? now.locks | bit : now.locks & ~bit;
        return Integer.bitCount(now.locks);
    }

    public int walk(int flips) throws IllegalArgumentException, IllegalStateException {
        if (flips < 1 || flips > MOST_WALK) {
            throw new IllegalArgumentException("flips is out of range");
        }
        if (distanceWithLocks() == NONE) {
            throw new IllegalStateException("there is no distance");
        }
        saveState();
        int made = 0;
        for (int step = 0; step < flips; step++) {
            int next = nextFlip();
            if (next == NONE) {
                break;
            }
            makeFlip(PRESENT, next);
            made++;
        }
        return made;
    }

    // ---- texts, snapshots

    public int append(int code) throws IllegalArgumentException, IllegalStateException {
        if (code < LEAST_CODE || code > MOST_CODE) {
            throw new IllegalArgumentException("the code is out of range");
        }
        if (text.isFull()) {
            throw new IllegalStateException("the buffer is full");
        }
        text.add(code);
        return text.length;
    }

    public int clearBuffer() {
        int length = text.length;
        text.clear();
        return length;
    }

    public int firstError() {
        return text.firstWrong(now.graph.polygon);
    }

    public int read(int which)
            throws IndexOutOfBoundsException, IllegalArgumentException, IllegalStateException {
        if (!isWhich(which)) {
            throw new IndexOutOfBoundsException("no such triangulation");
        }
        if (!text.isComplete(now.graph.polygon)) {
            throw new IllegalArgumentException("the buffer is not a complete triangulation");
        }
        int mask = text.maskIn(now.graph.polygon);
        if (mask == NONE) {
            throw new IllegalStateException("a diagonal is told twice, or two of them cross");
        }
        saveState();
        putNew(which, mask);
        text.clear();
        return mask;
    }

    public int take(int snapshot) throws IndexOutOfBoundsException {
        if (!isSnapshot(snapshot)) {
            throw new IndexOutOfBoundsException("no such snapshot");
        }
        snapshots[snapshot].copy(now);
        return now.graph.polygon.corners;
    }

    public int restore(int snapshot) throws IndexOutOfBoundsException, IllegalStateException {
        if (!isSnapshot(snapshot)) {
            throw new IndexOutOfBoundsException("no such snapshot");
        }
        if (snapshots[snapshot].graph == null) {
            throw new IllegalStateException("the snapshot was not taken");
        }
        saveState();
        int flips = now.flips;
        now.copy(snapshots[snapshot]);
        now.flips = flips;
        return now.graph.polygon.corners;
    }

    public int undo() throws IllegalStateException {
        int latest = savedStates - 1;
        if (latest < 0 || latest >= saved.length) {
            throw new IllegalStateException("no state is saved");
        }
        now.copy(saved[latest]);
        savedStates = latest;
        return savedStates;
    }

    // ---- looks; nothing is changed

    public int number(int a, int b) throws IndexOutOfBoundsException {
        int diagonal = now.graph.polygon.numberOf(a, b);
        if (diagonal == NONE) {
            throw new IndexOutOfBoundsException("no such diagonal");
        }
        return diagonal;
    }

    public int triangulation(int which, int what)
            throws IndexOutOfBoundsException, IllegalArgumentException {
        if (!isWhich(which)) {
            throw new IndexOutOfBoundsException("no such triangulation");
        }
        if (what < 0 || what >= TRIANGULATION_NUMBERS) {
            throw new IllegalArgumentException("what is out of range");
        }
        return numberOfTriangulation(which, what);
    }

    public int degree(int which, int corner) throws IndexOutOfBoundsException {
        if (!isWhich(which) || !now.graph.polygon.isCorner(corner)) {
            throw new IndexOutOfBoundsException("no such triangulation or corner");
        }
        return now.graph.polygon.degreeIn(now.mask(which), corner);
    }

    public int other(int which, int a, int b) throws IndexOutOfBoundsException {
        int diagonal = now.graph.polygon.numberOf(a, b);
        if (!isWhich(which) || diagonal == NONE) {
            throw new IndexOutOfBoundsException("no such triangulation or diagonal");
        }
        return now.graph.polygon.otherOf(now.mask(which), diagonal);
    }

    public int whyNot(int a, int b) throws IndexOutOfBoundsException {
        int diagonal = now.graph.polygon.numberOf(a, b);
        if (diagonal == NONE) {
            throw new IndexOutOfBoundsException("no such diagonal");
        }
        return hindrance(diagonal);
    }

    public int distance(int what) throws IllegalArgumentException {
        if (what < 0 || what >= DISTANCES) {
            throw new IllegalArgumentException("what is out of range");
        }
        return distanceNumber(what);
    }

    public int ifFlipped(int a, int b) throws IndexOutOfBoundsException {
        int diagonal = now.graph.polygon.numberOf(a, b);
        if (diagonal == NONE) {
            throw new IndexOutOfBoundsException("no such diagonal");
        }
        return freeDistanceBehind(diagonal);
    }

    public int count(int what) throws IllegalArgumentException {
        if (what < 0 || what >= COUNTS) {
            throw new IllegalArgumentException("what is out of range");
        }
        return countNumber(what);
    }

    public double farShare() {
        return shareOfWay();
    }

    public long digest() {
        long hash = FIRST_HASH;
        for (int what = 0; what < COUNTS; what++) {
            hash = 31 * hash + countNumber(what);
        }
        hash = mixTriangulation(hash, PRESENT);
        hash = mixTriangulation(hash, GOAL);
        for (int what = 0; what < DISTANCES; what++) {
            hash = 31 * hash + distanceNumber(what);
        }
        hash = mixDiagonals(hash);
        hash = 31 * hash + bitsOf(shareOfWay());
        return text.mixInto(hash);
    }

    // ---- what changes the state

    /** The parts of a polygon have fewer corners, so that the smaller graphs are needed, too. */
    private static void buildUpTo(FlipGraph[] graphs, int last) {
        for (int at = 0; at <= last && at < graphs.length; at++) {
            graphs[at].build();
        }
    }

    private void saveState() {
        if (savedStates >= saved.length) {
            for (int at = 1; at < saved.length; at++) {
                saved[at - 1].copy(saved[at]);
            }
            savedStates = saved.length - 1;
        }
        saved[savedStates].copy(now);
        savedStates++;
    }

    /** Flips a diagonal that is there, and returns the one that comes. */
    private int makeFlip(int which, int diagonal) {
        int mask = now.mask(which);
        int comes = now.graph.polygon.otherOf(mask, diagonal);
        now.put(which, now.graph.polygon.flipped(mask, diagonal));
        now.flips++;
        return comes;
    }

    /** Puts a triangulation in that keeps nothing of the one before: no lock outlives it. */
    private void putNew(int which, int mask) {
        now.put(which, mask);
        if (which == PRESENT) {
            now.locks = 0;
        }
    }

    // ---- what the looks tell

    private static boolean isWhich(int which) {
        return which == PRESENT || which == GOAL;
    }

    private boolean isSnapshot(int snapshot) {
        return snapshot >= 0 && snapshot < snapshots.length;
    }

    private static boolean isIn(int mask, int diagonal) {
        return (mask >> diagonal & 1) == 1;
    }

    private int numberOfTriangulation(int which, int what) {
        Polygon polygon = now.graph.polygon;
        int mask = now.mask(which);
        switch (what) {
            case 0:
                return mask;
            case 1:
                return polygon.leastImage(mask);
            case 2:
                return polygon.symmetries(mask);
            case 3:
                return polygon.ears(mask);
            case 4:
                return polygon.greatestDegree(mask);
            case 5:
                return reachFrom(which).farthest();
            default:
                return reachFrom(which).leastFarthest();
        }
    }

    private Reach reachFrom(int which) {
        Reach reach = which == PRESENT ? fromPresent : fromGoal;
        reach.measure(now.graph, now.mask(which), 0);
        return reach;
    }

    /** The ways that leave the locked diagonals alone; without locks these are the free ones. */
    private Reach reachWithLocks() {
        Reach reach = now.locks == 0 ? fromGoal : fromGoalWithLocks;
        reach.measure(now.graph, now.goal, now.locks);
        return reach;
    }

    private boolean hasDistance() {
        return (now.locks & ~now.goal) == 0;
    }

    private int distanceWithLocks() {
        return hasDistance() ? reachWithLocks().flipsTo(now.present) : NONE;
    }

    private int shortestWays() {
        return hasDistance() ? reachWithLocks().waysTo(now.present) : 0;
    }

    private int freeDistance() {
        return reachFrom(GOAL).flipsTo(now.present);
    }

    private int nextFlip() {
        if (!hasDistance()) {
            return NONE;
        }
        Reach reach = reachWithLocks();
        int closer = reach.flipsTo(now.present) - 1;
        if (closer < 0) {
            return NONE;
        }
        Polygon polygon = now.graph.polygon;
        int open = now.present & ~now.locks;
        for (int diagonal = 0; diagonal < polygon.diagonals; diagonal++) {
            if (isIn(open, diagonal)
                    && reach.flipsTo(polygon.flipped(now.present, diagonal)) == closer) {
                return diagonal;
            }
        }
        return NONE;
    }

    private int hindrance(int diagonal) {
        if (!isIn(now.present, diagonal)) {
            return 1;
        }
        return isIn(now.locks, diagonal) ? 2 : 0;
    }

    private int freeDistanceBehind(int diagonal) {
        if (!isIn(now.present, diagonal)) {
            return NONE;
        }
        return reachFrom(GOAL).flipsTo(now.graph.polygon.flipped(now.present, diagonal));
    }

    private int distanceNumber(int what) {
        switch (what) {
            case 0:
                return distanceWithLocks();
            case 1:
                return freeDistance();
            case 2:
                return freeDistanceByParts();
            case 3:
                return shortestWays();
            case 4:
                return nextFlip();
            default:
                return Integer.bitCount(now.present & now.goal);
        }
    }

    private int countNumber(int what) {
        switch (what) {
            case 0:
                return now.graph.polygon.corners;
            case 1:
                return now.graph.polygon.diagonals;
            case 2:
                return now.graph.triangulations;
            case 3:
                return now.graph.classes;
            case 4:
                return now.graph.diameter;
            case 5:
                return now.flips;
            case 6:
                return Integer.bitCount(now.locks);
            case 7:
                return now.locks;
            case 8:
                return takenSnapshots();
            default:
                return savedStates;
        }
    }

    private int takenSnapshots() {
        int taken = 0;
        for (int at = 0; at < snapshots.length; at++) {
            if (snapshots[at].graph != null) {
                taken++;
            }
        }
        return taken;
    }

    private double shareOfWay() {
        int most = now.graph.diameter;
        return most > 0 ? (double) freeDistance() / (double) most : 0.0;
    }

    // ---- the free distance by parts

    private int freeDistanceByParts() {
        int count = cutIntoParts(now.present & now.goal);
        int sum = 0;
        for (int at = 0; at < count; at++) {
            sum += freeDistanceInPart(parts[at]);
        }
        return sum;
    }

    /** Fills the list of parts, each as a set of corners, and returns how many they are. */
    private int cutIntoParts(int cuts) {
        Polygon polygon = now.graph.polygon;
        parts[0] = (1 << polygon.corners) - 1;
        int count = 1;
        for (int diagonal = 0; diagonal < polygon.diagonals; diagonal++) {
            if (isIn(cuts, diagonal) && count < parts.length) {
                cutOnePart(count, polygon.lesser[diagonal], polygon.greater[diagonal]);
                count++;
            }
        }
        return count;
    }

    /** Cuts the part with both corners; only one has them while the diagonal is not cut yet. */
    private void cutOnePart(int count, int a, int b) {
        int ends = 1 << a | 1 << b;
        int side = (1 << (b + 1)) - (1 << a);
        for (int at = 0; at < count; at++) {
            if ((parts[at] & ends) == ends) {
                parts[count] = parts[at] & side;
                parts[at] = parts[at] & (~side | ends);
                return;
            }
        }
    }

    private int freeDistanceInPart(int part) {
        int at = Integer.bitCount(part) - LEAST_CORNERS;
        if (at < 0 || at >= graphs.length) {
            return 0;
        }
        Polygon whole = now.graph.polygon;
        Polygon small = graphs[at].polygon;
        fromPart.measure(graphs[at], whole.maskInPart(now.goal, part, small), 0);
        return fromPart.flipsTo(whole.maskInPart(now.present, part, small));
    }

    // ---- the hash

    private long mixTriangulation(long before, int which) {
        long hash = before;
        for (int what = 0; what < TRIANGULATION_NUMBERS; what++) {
            hash = 31 * hash + numberOfTriangulation(which, what);
        }
        Polygon polygon = now.graph.polygon;
        for (int corner = 0; corner < polygon.corners; corner++) {
            hash = 31 * hash + polygon.degreeIn(now.mask(which), corner);
        }
        return hash;
    }

    private long mixDiagonals(long before) {
        long hash = before;
        Polygon polygon = now.graph.polygon;
        for (int diagonal = 0; diagonal < polygon.diagonals; diagonal++) {
            hash = 31 * hash + polygon.otherOf(now.present, diagonal);
            hash = 31 * hash + polygon.otherOf(now.goal, diagonal);
            hash = 31 * hash + hindrance(diagonal);
            hash = 31 * hash + freeDistanceBehind(diagonal);
        }
        return hash;
    }

    /**
     * The bits of a share from 0 to 1, as Double.doubleToLongBits tells them, which is not in the
     * part of Java that this program keeps to. Doubling and taking 1 off are exact.
     */
    private static long bitsOf(double share) {
        if (!(share > 0.0)) {
            return 0L;
        }
        double scaled = share;
        long exponent = 1023L;
        for (int step = 0; step < 1022 && scaled < 1.0; step++) {
            scaled = scaled * 2.0;
            exponent--;
        }
        return (exponent << 52) + (long) ((scaled - 1.0) * 4503599627370496.0);
    }

    /** What an undo brings back. A snapshot is one, too, with no graph before it is taken. */
    private static final class State {
        private FlipGraph graph;
        private int present;
        private int goal;
        private int locks;
        private int flips;

        void startWith(FlipGraph newGraph) {
            graph = newGraph;
            present = newGraph.polygon.fanOf(0);
            goal = present;
            locks = 0;
        }

        void copy(State from) {
            graph = from.graph;
            present = from.present;
            goal = from.goal;
            locks = from.locks;
            flips = from.flips;
        }

        int mask(int which) {
            return which == PRESENT ? present : goal;
        }

        void put(int which, int mask) {
            if (which == PRESENT) {
                present = mask;
            } else {
                goal = mask;
            }
        }
    }

    /** The diagonals of a polygon: their numbers, what crosses, and what turning makes of them. */
    private static final class Polygon {
        private final int corners;
        private final int diagonals;
        private final int[] lesser;
        private final int[] greater;
        private final int[] numbers;
        private final int[] fans;
        private final int[] crossing;
        private final int[] afterTurn;
        private final int[] afterMirror;

        Polygon(int n) {
            corners = n;
            diagonals = n * (n - 3) / 2;
            lesser = new int[diagonals];
            greater = new int[diagonals];
            numbers = new int[n * n];
            fans = new int[n];
            crossing = new int[diagonals];
            afterTurn = new int[diagonals];
            afterMirror = new int[diagonals];
            nameDiagonals();
            findCrossings();
            findImages();
        }

        private void nameDiagonals() {
            Arrays.fill(numbers, NONE);
            int next = 0;
            for (int a = 0; a < corners; a++) {
                for (int b = a + 2; b < corners; b++) {
                    if (b - a < corners - 1 && next < diagonals) {
                        numbers[a * corners + b] = next;
                        lesser[next] = a;
                        greater[next] = b;
                        fans[a] |= 1 << next;
                        fans[b] |= 1 << next;
                        next++;
                    }
                }
            }
        }

        private void findCrossings() {
            for (int one = 0; one < diagonals; one++) {
                for (int two = 0; two < diagonals; two++) {
                    boolean startsInside = lesser[one] < lesser[two] && lesser[two] < greater[one];
                    if (startsInside && greater[one] < greater[two]) {
                        crossing[one] |= 1 << two;
                        crossing[two] |= 1 << one;
                    }
                }
            }
        }

        private void findImages() {
            for (int diagonal = 0; diagonal < diagonals; diagonal++) {
                int a = lesser[diagonal];
                int b = greater[diagonal];
                afterTurn[diagonal] = b + 1 < corners ? numberOf(a + 1, b + 1) : numberOf(0, a + 1);
                afterMirror[diagonal] = numberOf(corners - 1 - b, corners - 1 - a);
            }
        }

        boolean isCorner(int corner) {
            return corner >= 0 && corner < corners;
        }

        /** NONE if the corners, the lesser one first, are no diagonal. */
        int numberOf(int a, int b) {
            return isCorner(a) && isCorner(b) ? numbers[a * corners + b] : NONE;
        }

        int fanOf(int corner) {
            return isCorner(corner) ? fans[corner] : 0;
        }

        int degreeIn(int mask, int corner) {
            return Integer.bitCount(mask & fanOf(corner));
        }

        /** The one diagonal that crosses no other of the triangulation; NONE if it is not there. */
        int otherOf(int mask, int diagonal) {
            int bit = 1 << diagonal;
            if ((mask & bit) == 0) {
                return NONE;
            }
            for (int other = 0; other < diagonals; other++) {
                if ((crossing[other] & mask) == bit) {
                    return other;
                }
            }
            return NONE;
        }

        int flipped(int mask, int diagonal) {
            int other = otherOf(mask, diagonal);
            return other == NONE ? mask : mask ^ (1 << diagonal) ^ (1 << other);
        }

        int turnedBy(int mask, int k) {
            int image = mask;
            for (int step = 0; step < k; step++) {
                image = moved(image, afterTurn);
            }
            return image;
        }

        int mirrored(int mask) {
            return moved(mask, afterMirror);
        }

        private static int moved(int mask, int[] after) {
            int image = 0;
            for (int diagonal = 0; diagonal < after.length; diagonal++) {
                if (isIn(mask, diagonal)) {
                    image |= 1 << after[diagonal];
                }
            }
            return image;
        }

        int leastImage(int mask) {
            int least = mask;
            int image = mask;
            for (int turns = 0; turns < 2 * corners; turns++) {
                image = nextImage(image, turns);
                least = Math.min(least, image);
            }
            return least;
        }

        int symmetries(int mask) {
            int same = 0;
            int image = mask;
            for (int turns = 0; turns < 2 * corners; turns++) {
                image = nextImage(image, turns);
                same += image == mask ? 1 : 0;
            }
            return same;
        }

        /** All turns of the triangulation come first, then all turns of the mirrored one. */
        private int nextImage(int image, int turns) {
            return moved(turns == corners ? mirrored(image) : image, afterTurn);
        }

        int ears(int mask) {
            int ears = 0;
            for (int corner = 0; corner < corners; corner++) {
                ears += degreeIn(mask, corner) == 0 ? 1 : 0;
            }
            return ears;
        }

        int greatestDegree(int mask) {
            int greatest = 0;
            for (int corner = 0; corner < corners; corner++) {
                greatest = Math.max(greatest, degreeIn(mask, corner));
            }
            return greatest;
        }

        /** The diagonals within a part, told as those of a polygon of the part's own. */
        int maskInPart(int mask, int part, Polygon small) {
            int within = 0;
            for (int diagonal = 0; diagonal < diagonals; diagonal++) {
                int ends = 1 << lesser[diagonal] | 1 << greater[diagonal];
                if (isIn(mask, diagonal) && (part & ends) == ends) {
                    int a = Integer.bitCount(part & ((1 << lesser[diagonal]) - 1));
                    int b = Integer.bitCount(part & ((1 << greater[diagonal]) - 1));
                    int anew = small.numberOf(a, b);
                    within |= anew == NONE ? 0 : 1 << anew;
                }
            }
            return within;
        }
    }

    /** All triangulations of a polygon, and which comes of which by a flip. */
    private static final class FlipGraph {
        private final Polygon polygon;
        private final int triangulations;
        private final int classes;
        private final int diameter;
        private final int flipsOfEach;
        private final int[] masks;
        private final int[] neighbors;
        private final int[] slots;
        private int found;

        FlipGraph(Polygon ofPolygon) {
            polygon = ofPolygon;
            triangulations = ofCorners(TRIANGULATIONS, ofPolygon.corners);
            classes = ofCorners(CLASSES, ofPolygon.corners);
            diameter = ofCorners(DIAMETERS, ofPolygon.corners);
            flipsOfEach = ofPolygon.corners - 3;
            masks = new int[triangulations];
            neighbors = new int[triangulations * flipsOfEach];
            slots = new int[slotsFor(triangulations)];
        }

        private static int ofCorners(int[] table, int corners) {
            int at = corners - LEAST_CORNERS;
            return at >= 0 && at < table.length ? table[at] : 0;
        }

        /** A power of two, so that half of the slots at least stay empty and searches short. */
        private static int slotsFor(int entries) {
            int size = 4;
            for (int step = 0; step < 16 && size < 2 * entries; step++) {
                size = 2 * size;
            }
            return size;
        }

        /** Flips lead from the fan to every triangulation. It is done once. */
        void build() {
            if (found > 0) {
                return;
            }
            indexOrNew(polygon.fanOf(0));
            for (int at = 0; at < found && at < masks.length; at++) {
                int rest = masks[at];
                for (int flip = 0; flip < flipsOfEach && rest != 0; flip++) {
                    int diagonal = Integer.bitCount((rest & -rest) - 1);
                    neighbors[at * flipsOfEach + flip] =
                            indexOrNew(polygon.flipped(masks[at], diagonal));
                    rest &= rest - 1;
                }
            }
        }

        private int indexOrNew(int mask) {
            int slot = slotOf(mask);
            if (slots[slot] == 0 && found < masks.length) {
                masks[found] = mask;
                found++;
                slots[slot] = found;
            }
            return slots[slot] - 1;
        }

        /** What comes of a flip, the flips of each in the order of their diagonals. */
        int neighborOf(int index, int flip) {
            int at = index * flipsOfEach + flip;
            return at >= 0 && at < neighbors.length ? neighbors[at] : NONE;
        }

        /** 0 if there is no such index. */
        int maskAt(int index) {
            return index >= 0 && index < masks.length ? masks[index] : 0;
        }

        /** NONE if there is no such triangulation. */
        int indexOf(int mask) {
            return slots[slotOf(mask)] - 1;
        }

        /** The slot of a mask, or the empty one where it would be; a slot holds an index plus 1. */
        private int slotOf(int mask) {
            int last = slots.length - 1;
            int slot = (mask * 0x9E3779B1 >>> 16) & last;
            for (int step = 0; step < last; step++) {
                if (slots[slot] == 0 || masks[slots[slot] - 1] == mask) {
                    return slot;
                }
                slot = (slot + 1) & last;
            }
            return slot;
        }
    }

    /**
     * The least flips from one triangulation to all others, none of them of a barred diagonal. The
     * latest answer is kept, as most looks ask for the same one again.
     */
    private static final class Reach {
        private final int[] flips;
        private final int[] ways;
        private final int[] queue;
        private FlipGraph graph;
        private int source;
        private int barred;

        Reach(FlipGraph firstGraph) {
            flips = new int[MOST_TRIANGULATIONS];
            ways = new int[MOST_TRIANGULATIONS];
            queue = new int[MOST_TRIANGULATIONS];
            graph = firstGraph;
            source = NONE;
        }

        void measure(FlipGraph inGraph, int fromMask, int barredMask) {
            if (graph == inGraph && source == fromMask && barred == barredMask) {
                return;
            }
            graph = inGraph;
            source = fromMask;
            barred = barredMask;
            Arrays.fill(flips, NONE);
            Arrays.fill(ways, 0);
            int start = graph.indexOf(fromMask);
            if (start < 0 || start >= flips.length) {
                return;
            }
            flips[start] = 0;
            ways[start] = 1;
            queue[0] = start;
            int queued = 1;
            for (int at = 0; at < queued && at < queue.length; at++) {
                queued = spreadOn(queue[at], queued);
            }
        }

        /** Goes one flip on, and returns how many triangulations have been reached then. */
        private int spreadOn(int from, int before) {
            int queued = before;
            int rest = graph.maskAt(from);
            for (int flip = 0; flip < graph.flipsOfEach && rest != 0; flip++) {
                int bit = rest & -rest;
                rest ^= bit;
                int to = (bit & barred) == 0 ? graph.neighborOf(from, flip) : NONE;
                if (to < 0 || to >= flips.length) {
                    continue;
                }
                if (flips[to] == NONE && queued < queue.length) {
                    flips[to] = flips[from] + 1;
                    queue[queued] = to;
                    queued++;
                }
                if (flips[to] == flips[from] + 1) {
                    ways[to] += ways[from];
                }
            }
            return queued;
        }

        /** NONE if it cannot be reached. */
        int flipsTo(int mask) {
            int at = graph.indexOf(mask);
            return at >= 0 && at < flips.length ? flips[at] : NONE;
        }

        int waysTo(int mask) {
            int at = graph.indexOf(mask);
            return at >= 0 && at < ways.length ? ways[at] : 0;
        }

        int farthest() {
            int most = 0;
            for (int at = 0; at < flips.length; at++) {
                most = Math.max(most, flips[at]);
            }
            return most;
        }

        int leastFarthest() {
            int most = farthest();
            int least = NONE;
            for (int at = 0; at < flips.length; at++) {
                int mask = graph.maskAt(at);
                if (flips[at] == most && (least == NONE || mask < least)) {
                    least = mask;
                }
            }
            return least;
        }
    }

    /** The buffer, and a triangulation as a text in it: two digits and a comma for a diagonal. */
    private static final class Text {
        private static final int SIZE = 60;
        private static final int STEP = 3;

        private final int[] codes;
        private int length;

        Text() {
            codes = new int[SIZE];
        }

        boolean isFull() {
            return length >= codes.length;
        }

        void add(int code) {
            if (length < codes.length) {
                codes[length] = code;
                length++;
            }
        }

        void clear() {
            length = 0;
        }

        private static int fullLength(Polygon polygon) {
            return STEP * (polygon.corners - 3) - 1;
        }

        private int cornerAt(int at) {
            return at >= 0 && at < length ? codes[at] - '0' : NONE;
        }

        int firstWrong(Polygon polygon) {
            int full = fullLength(polygon);
            for (int at = 0; at < length; at++) {
                if (at >= full || !fits(polygon, at)) {
                    return at;
                }
            }
            return length;
        }

        private boolean fits(Polygon polygon, int at) {
            switch (at % STEP) {
                case 0:
                    return beginsDiagonal(polygon, cornerAt(at));
                case 1:
                    return polygon.numberOf(cornerAt(at - 1), cornerAt(at)) != NONE;
                default:
                    return codes[at] == ',';
            }
        }

        /** The two greatest corners have no greater one but a neighbor. */
        private static boolean beginsDiagonal(Polygon polygon, int corner) {
            return corner >= 0 && corner < polygon.corners - 2;
        }

        boolean isComplete(Polygon polygon) {
            return length == fullLength(polygon) && firstWrong(polygon) == length;
        }

        /** The mask of a complete text; NONE if a diagonal is told twice, or two of them cross. */
        int maskIn(Polygon polygon) {
            int mask = 0;
            for (int at = 0; at + 1 < length; at += STEP) {
                int diagonal = polygon.numberOf(cornerAt(at), cornerAt(at + 1));
                if (diagonal == NONE || isIn(mask, diagonal)
                        || (polygon.crossing[diagonal] & mask) != 0) {
                    return NONE;
                }
                mask |= 1 << diagonal;
            }
            return mask;
        }

        long mixInto(long before) {
            long hash = 31 * before + length;
            for (int at = 0; at < length; at++) {
                hash = 31 * hash + codes[at];
            }
            return hash;
        }
    }
}
