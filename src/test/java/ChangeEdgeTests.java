/** The boundary cases of the promises 1 to 9: each range, each refused call, nothing and all. */
public final class ChangeEdgeTests {
    private static final int NONE = FlipPolygons.NONE;
    private static final Checks CHECKS = new Checks();
    private static final int LEAST = Integer.MIN_VALUE;
    private static final int MOST = Integer.MAX_VALUE;

    public static void main(String[] args) {
        newObjectIsEmpty();
        newObjectsAreApart();
        beginInRange();
        beginOutOfRange();
        beginWithTheSame();
        beginKeepsWhatItDoesNotName();
        flipOfEither();
        flipOfNoTriangulation();
        flipOfWhatIsNotThere();
        flipOfLocked();
        flipRefusedInOrder();
        fanOfEachCorner();
        fanOutOfRange();
        fanCounts();
        fanAndLocks();
        turnInRange();
        turnOutOfRange();
        turnRefusedInOrder();
        turnOfLocksAroundTheEnd();
        mirrorInRange();
        mirrorOutOfRange();
        mirrorOfLocks();
        exchangeLosesLocks();
        exchangeOfTheSame();
        lockFromNoneToAll();
        lockAgain();
        lockOfWhatIsNotThere();
        lockRefusedInOrder();
        walkInRange();
        walkOutOfRange();
        walkNotFartherThanAsked();
        walkNotFartherThanTheGoal();
        walkAtTheGoal();
        walkWithoutDistance();
        walkRefusedInOrder();
        walkIsUndoneAsOne();
        CHECKS.end();
    }

    private static void due(String call, long got, long want) {
        CHECKS.due(call, got, want);
    }

    private static FlipPolygons polygon(int n) {
        FlipPolygons x = new FlipPolygons();
        x.begin(n);
        return x;
    }

    private static int fanMask(int n, int corner) {
        return PlainModel.mask(n, PlainModel.fanOf(n, corner));
    }

    /** The refusal of a call on a busy object of each size. */
    private static void dueRefusal(String name, String exception, Checks.CallOf call) {
        for (int n = 4; n <= 9; n++) {
            int corners = n;
            CHECKS.dueRefusal(() -> Scenes.busy(corners), name + " for " + n, exception, call);
        }
    }

    private static final int[] NO_TRIANGULATION = {-1, 2, 3, LEAST, MOST};

    // ---- promise 1

    private static void newObjectIsEmpty() {
        CHECKS.about("promise 1: no locks, no snapshots, no saved states, an empty buffer");
        FlipPolygons x = new FlipPolygons();
        int[] counts = {6, 9, 14, 3, 4, 0, 0, 0, 0, 0};
        for (int what = 0; what < counts.length; what++) {
            due("count(" + what + ")", x.count(what), counts[what]);
        }
        due("firstError()", x.firstError(), 0);
        due("clearBuffer()", x.clearBuffer(), 0);
        due("digest()", x.digest(), Scenes.digestOf(x, ""));
        CHECKS.dueRefusal(FlipPolygons::new, "undo()", Checks.STATE, FlipPolygons::undo);
        CHECKS.dueRefusal(FlipPolygons::new, "restore(0)", Checks.STATE, y -> y.restore(0));
        CHECKS.dueRefusal(FlipPolygons::new, "restore(1)", Checks.STATE, y -> y.restore(1));
        CHECKS.dueRefusal(FlipPolygons::new, "read(0)", Checks.ARGUMENT, y -> y.read(0));
    }

    private static void newObjectsAreApart() {
        CHECKS.about("promise 1: what is done to one object is not done to another");
        FlipPolygons one = new FlipPolygons();
        long before = one.digest();
        FlipPolygons two = Scenes.busy(9);
        two.take(0);
        due("the elder object", one.digest(), before);
        due("a younger object", new FlipPolygons().digest(), before);
    }

    // ---- promise 2

    private static void beginInRange() {
        CHECKS.about("promise 2: n is 4 to 9, and returns the previous number");
        for (int before = 4; before <= 9; before++) {
            for (int n : new int[] {4, 9}) {
                FlipPolygons x = Scenes.busy(before);
                due("begin(" + n + ") behind " + before, x.begin(n), before);
                due("count(0)", x.count(0), n);
            }
        }
    }

    private static void beginOutOfRange() {
        CHECKS.about("promise 2: n is out of range");
        for (int n : new int[] {3, 10, 0, -1, -4, 260, LEAST, LEAST + 3, MOST}) {
            dueRefusal("begin(" + n + ")", Checks.ARGUMENT, x -> x.begin(n));
        }
    }

    private static void beginWithTheSame() {
        CHECKS.about("promise 2: with the same n all is begun anew, too");
        for (int n = 4; n <= 9; n++) {
            FlipPolygons x = Scenes.busy(n);
            due("begin(" + n + ")", x.begin(n), n);
            due("present", x.triangulation(0, 0), fanMask(n, 0));
            due("goal", x.triangulation(1, 0), fanMask(n, 0));
            due("locks", x.count(7), 0);
            due("saved states", x.count(9), 5);
        }
    }

    private static void beginKeepsWhatItDoesNotName() {
        CHECKS.about("promise 2: what is counted so far stays, and the buffer and the snapshots");
        for (int n = 4; n <= 9; n++) {
            FlipPolygons x = Scenes.busy(6);
            x.begin(n);
            due("flips", x.count(5), 1);
            due("snapshots", x.count(8), 1);
            due("the buffer's length", x.clearBuffer(), 3);
        }
    }

    // ---- promise 3

    private static void flipOfEither() {
        CHECKS.about("promise 3: which is 0 or 1");
        for (int n = 4; n <= 9; n++) {
            FlipPolygons x = polygon(n);
            due("flip(1, 0, 2)", x.flip(1, 0, 2), n - 3);
            due("the present one stays", x.triangulation(0, 0), fanMask(n, 0));
            due("flip(0, 0, n - 2)", x.flip(0, 0, n - 2), n * (n - 3) / 2 - 1);
            due("flips of both are counted", x.count(5), 2);
        }
    }

    private static void flipOfNoTriangulation() {
        CHECKS.about("promise 3: which is not 0 or 1");
        for (int which : NO_TRIANGULATION) {
            dueRefusal("flip(" + which + ", 0, 2)", Checks.INDEX, x -> x.flip(which, 0, 2));
            dueRefusal("flip(" + which + ", 1, 3)", Checks.INDEX, x -> x.flip(which, 1, 3));
        }
    }

    private static void flipOfWhatIsNotThere() {
        CHECKS.about("promise 3: it is not in this triangulation");
        for (int n = 4; n <= 9; n++) {
            int corners = n;
            for (String diagonal : PlainModel.diagonals(n)) {
                int a = diagonal.charAt(0) - '0';
                int b = diagonal.charAt(1) - '0';
                if (a > 0) {
                    CHECKS.dueRefusal(() -> polygon(corners), "flip(0) of " + diagonal, Checks.STATE,
                            x -> x.flip(0, a, b));
                    CHECKS.dueRefusal(() -> polygon(corners), "flip(1) of " + diagonal, Checks.STATE,
                            x -> x.flip(1, a, b));
                }
            }
        }
        dueRefusal("flip(0, 0, 2), flipped before", Checks.STATE, x -> x.flip(0, 0, 2));
    }

    private static void flipOfLocked() {
        CHECKS.about("promise 3: of the present one, it is locked; of the goal that is no matter");
        dueRefusal("flip(0, 1, 3)", Checks.STATE, x -> x.flip(0, 1, 3));
        for (int n = 4; n <= 9; n++) {
            FlipPolygons x = Scenes.busy(n);
            due("flip(1, 1, 3), locked in the present one", x.flip(1, 1, 3), n == 4 ? 0 : n - 3 + n - 3);
            due("it stays locked", x.count(6), 1);
        }
    }

    private static void flipRefusedInOrder() {
        CHECKS.about("promise 3: IndexOutOfBoundsException before IllegalStateException");
        dueRefusal("flip(2, 1, 3), locked", Checks.INDEX, x -> x.flip(2, 1, 3));
        dueRefusal("flip(-1, 0, 2), not there", Checks.INDEX, x -> x.flip(-1, 0, 2));
        dueRefusal("flip(0, 3, 1), turned around", Checks.INDEX, x -> x.flip(0, 3, 1));
    }

    // ---- promise 4

    private static void fanOfEachCorner() {
        CHECKS.about("promise 4: corners from 0 to n - 1");
        for (int n = 4; n <= 9; n++) {
            for (int corner = 0; corner < n; corner++) {
                for (int which = 0; which <= 1; which++) {
                    FlipPolygons x = polygon(n);
                    x.fan(which, corner);
                    due("fan(" + which + ", " + corner + ") for " + n,
                            x.triangulation(which, 0), fanMask(n, corner));
                    due("the other one", x.triangulation(1 - which, 0), fanMask(n, 0));
                }
            }
        }
    }

    private static void fanOutOfRange() {
        CHECKS.about("promise 4: which is not 0 or 1, or there is no such corner");
        for (int which : NO_TRIANGULATION) {
            dueRefusal("fan(" + which + ", 0)", Checks.INDEX, x -> x.fan(which, 0));
        }
        for (int which = 0; which <= 1; which++) {
            int of = which;
            dueRefusal("fan(" + of + ", n)", Checks.INDEX, x -> x.fan(of, x.count(0)));
            for (int corner : new int[] {-1, 9, LEAST, MOST}) {
                dueRefusal("fan(" + of + ", " + corner + ")", Checks.INDEX, x -> x.fan(of, corner));
            }
        }
    }

    private static void fanCounts() {
        CHECKS.about("promise 4: none, some, or all of its diagonals were there before");
        for (int n = 4; n <= 9; n++) {
            FlipPolygons x = polygon(n);
            due("all, for " + n, x.fan(0, 0), n - 3);
            due("none, for " + n, x.fan(0, n - 1), 0);
            due("one, for " + n, x.fan(0, 2), n == 4 ? 0 : 1);
            due("saved states", x.count(9), 4);
        }
    }

    private static void fanAndLocks() {
        CHECKS.about("promise 4: of the present one all locks are gone, also if it was this fan");
        for (int n = 4; n <= 9; n++) {
            FlipPolygons x = polygon(n);
            x.lock(0, n - 2, true);
            x.fan(1, 0);
            due("locks behind fan(1, 0)", x.count(6), 1);
            due("fan(0, 0)", x.fan(0, 0), n - 3);
            due("locks behind fan(0, 0)", x.count(6), 0);
        }
    }

    // ---- promise 5

    private static void turnInRange() {
        CHECKS.about("promise 5: k is 0 to 8, also beyond n");
        for (int n = 4; n <= 9; n++) {
            for (int which = 0; which <= 1; which++) {
                FlipPolygons x = polygon(n);
                due("turn(" + which + ", 0) for " + n, x.turn(which, 0), fanMask(n, 0));
                due("turn(" + which + ", 8) for " + n, x.turn(which, 8), fanMask(n, 8 % n));
                due("saved states", x.count(9), 3);
            }
        }
    }

    private static void turnOutOfRange() {
        CHECKS.about("promise 5: which is not 0 or 1; k is out of range");
        for (int which : NO_TRIANGULATION) {
            dueRefusal("turn(" + which + ", 1)", Checks.INDEX, x -> x.turn(which, 1));
        }
        for (int k : new int[] {-1, 9, -8, LEAST, MOST}) {
            dueRefusal("turn(0, " + k + ")", Checks.ARGUMENT, x -> x.turn(0, k));
            dueRefusal("turn(1, " + k + ")", Checks.ARGUMENT, x -> x.turn(1, k));
        }
    }

    private static void turnRefusedInOrder() {
        CHECKS.about("promise 5: IndexOutOfBoundsException before IllegalArgumentException");
        dueRefusal("turn(2, 9)", Checks.INDEX, x -> x.turn(2, 9));
        dueRefusal("turn(-1, -1)", Checks.INDEX, x -> x.turn(-1, -1));
    }

    private static void turnOfLocksAroundTheEnd() {
        CHECKS.about("promise 5: of the present one, the locks turn with it, around the end, too");
        for (int n = 4; n <= 9; n++) {
            for (int k = 0; k <= 8; k++) {
                FlipPolygons x = polygon(n);
                x.lock(0, n - 2, true);
                int a = k % n;
                int b = (n - 2 + k) % n;
                x.turn(0, k);
                due("lock of 0 " + (n - 2) + " turned by " + k + " for " + n, x.count(7),
                        1 << x.number(Math.min(a, b), Math.max(a, b)));
                int locks = x.count(7);
                x.turn(1, 1);
                due("the goal's turn leaves the locks", x.count(7), locks);
            }
        }
    }

    // ---- promise 6

    private static void mirrorInRange() {
        CHECKS.about("promise 6: which is 0 or 1");
        for (int n = 4; n <= 9; n++) {
            FlipPolygons x = polygon(n);
            due("mirror(0) for " + n, x.mirror(0), fanMask(n, n - 1));
            due("the goal stays", x.triangulation(1, 0), fanMask(n, 0));
            due("mirror(1) for " + n, x.mirror(1), fanMask(n, n - 1));
            due("mirror(0) again", x.mirror(0), fanMask(n, 0));
        }
    }

    private static void mirrorOutOfRange() {
        CHECKS.about("promise 6: which is not 0 or 1");
        for (int which : NO_TRIANGULATION) {
            dueRefusal("mirror(" + which + ")", Checks.INDEX, x -> x.mirror(which));
        }
    }

    private static void mirrorOfLocks() {
        CHECKS.about("promise 6: of the present one, the locks with it");
        for (int n = 4; n <= 9; n++) {
            FlipPolygons x = polygon(n);
            x.lock(0, 2, true);
            x.mirror(1);
            due("the goal's mirroring leaves the lock", x.count(7), 1);
            x.mirror(0);
            due("02 becomes the last diagonal", x.count(7), 1 << (n * (n - 3) / 2 - 1));
            due("whyNot", x.whyNot(n - 3, n - 1), 2);
        }
    }

    // ---- promise 7

    private static void exchangeLosesLocks() {
        CHECKS.about("promise 7: no diagonal is locked then, also if both have it");
        for (int n = 4; n <= 9; n++) {
            FlipPolygons x = Scenes.busy(n);
            int present = x.triangulation(0, 0);
            due("exchange()", x.exchange(), fanMask(n, 1));
            due("present", x.triangulation(0, 0), fanMask(n, 1));
            due("goal", x.triangulation(1, 0), present);
            due("locks", x.count(7), 0);
            due("saved states", x.count(9), 5);
            due("undo()", x.undo(), 4);
            due("the lock is back", x.count(7), 1 << (n - 3));
        }
    }

    private static void exchangeOfTheSame() {
        CHECKS.about("promise 7: both are the same");
        for (int n = 4; n <= 9; n++) {
            FlipPolygons x = polygon(n);
            x.lock(0, 2, true);
            due("exchange()", x.exchange(), fanMask(n, 0));
            due("goal", x.triangulation(1, 0), fanMask(n, 0));
            due("locks", x.count(6), 0);
        }
    }

    // ---- promise 8

    private static void lockFromNoneToAll() {
        CHECKS.about("promise 8: how many are locked then, from none to all");
        for (int n = 4; n <= 9; n++) {
            FlipPolygons x = polygon(n);
            for (int b = 2; b <= n - 2; b++) {
                due("lock(0, " + b + ", true)", x.lock(0, b, true), b - 1);
            }
            due("mask of all", x.count(7), fanMask(n, 0));
            for (int b = 2; b <= n - 2; b++) {
                due("lock(0, " + b + ", false)", x.lock(0, b, false), n - 2 - b);
            }
            due("mask of none", x.count(7), 0);
        }
    }

    private static void lockAgain() {
        CHECKS.about("promise 8: a locked one is locked, one that is not locked is unlocked");
        for (int n = 4; n <= 9; n++) {
            FlipPolygons x = polygon(n);
            due("lock(0, 2, false), not locked", x.lock(0, 2, false), 0);
            due("lock(0, 2, true)", x.lock(0, 2, true), 1);
            due("lock(0, 2, true), locked", x.lock(0, 2, true), 1);
            due("each of them saves a state", x.count(9), 4);
        }
    }

    private static void lockOfWhatIsNotThere() {
        CHECKS.about("promise 8: it is not in the present triangulation");
        dueRefusal("lock(0, 2, true)", Checks.STATE, x -> x.lock(0, 2, true));
        dueRefusal("lock(0, 2, false)", Checks.STATE, x -> x.lock(0, 2, false));
        for (int n = 5; n <= 9; n++) {
            int corners = n;
            CHECKS.dueRefusal(() -> Scenes.busy(corners), "lock(1, 4, true), in the goal alone",
                    Checks.STATE, x -> x.lock(1, 4, true));
        }
    }

    private static void lockRefusedInOrder() {
        CHECKS.about("promise 8: IndexOutOfBoundsException before IllegalStateException");
        dueRefusal("lock(2, 0, true)", Checks.INDEX, x -> x.lock(2, 0, true));
        dueRefusal("lock(0, 1, false)", Checks.INDEX, x -> x.lock(0, 1, false));
    }

    // ---- promise 9

    private static FlipPolygons farApart(int n) {
        FlipPolygons x = polygon(n);
        x.fan(1, n - 1);
        return x;
    }

    private static void walkInRange() {
        CHECKS.about("promise 9: flips is 1 to 20");
        for (int n = 4; n <= 9; n++) {
            due("walk(1) for " + n, farApart(n).walk(1), 1);
            due("walk(20) for " + n, farApart(n).walk(20), n - 3);
        }
    }

    private static void walkOutOfRange() {
        CHECKS.about("promise 9: flips is out of range");
        for (int flips : new int[] {0, 21, -1, LEAST, MOST}) {
            for (int n = 4; n <= 9; n++) {
                int corners = n;
                CHECKS.dueRefusal(() -> farApart(corners), "walk(" + flips + ") for " + n,
                        Checks.ARGUMENT, x -> x.walk(flips));
            }
        }
    }

    private static void walkNotFartherThanAsked() {
        CHECKS.about("promise 9: at most so many");
        for (int n = 4; n <= 9; n++) {
            for (int flips = 1; flips <= n - 3; flips++) {
                FlipPolygons x = farApart(n);
                due("walk(" + flips + ") of " + (n - 3), x.walk(flips), flips);
                due("left", x.distance(0), n - 3 - flips);
                due("flips so far", x.count(5), flips);
            }
        }
    }

    private static void walkNotFartherThanTheGoal() {
        CHECKS.about("promise 9: until the goal is reached");
        for (int n = 4; n <= 9; n++) {
            for (int more = 0; more <= 1; more++) {
                FlipPolygons x = farApart(n);
                due("walk(" + (n - 3 + more) + ") of " + (n - 3), x.walk(n - 3 + more), n - 3);
                due("present", x.triangulation(0, 0), fanMask(n, n - 1));
                due("flips so far", x.count(5), n - 3);
            }
        }
    }

    private static void walkAtTheGoal() {
        CHECKS.about("promise 9: no flip is made at the goal; a state is saved");
        for (int n = 4; n <= 9; n++) {
            FlipPolygons x = polygon(n);
            due("walk(1) for " + n, x.walk(1), 0);
            due("walk(20) for " + n, x.walk(20), 0);
            due("flips so far", x.count(5), 0);
            due("saved states", x.count(9), 3);
        }
    }

    private static FlipPolygons withoutDistance(int n) {
        FlipPolygons x = farApart(n);
        x.lock(0, 2, true);
        return x;
    }

    private static void walkWithoutDistance() {
        CHECKS.about("promise 9: there is no distance");
        for (int n = 4; n <= 9; n++) {
            int corners = n;
            for (int flips : new int[] {1, 20}) {
                CHECKS.dueRefusal(() -> withoutDistance(corners), "walk(" + flips + ") for " + n,
                        Checks.STATE, x -> x.walk(flips));
            }
            FlipPolygons x = withoutDistance(n);
            x.lock(0, 2, false);
            due("walk(20), unlocked", x.walk(20), n - 3);
        }
    }

    private static void walkRefusedInOrder() {
        CHECKS.about("promise 9: IllegalArgumentException before IllegalStateException");
        for (int flips : new int[] {0, 21}) {
            CHECKS.dueRefusal(() -> withoutDistance(6), "walk(" + flips + ") without a distance",
                    Checks.ARGUMENT, x -> x.walk(flips));
        }
    }

    private static void walkIsUndoneAsOne() {
        CHECKS.about("promise 9: undoable, as one call");
        for (int n = 4; n <= 9; n++) {
            FlipPolygons x = farApart(n);
            long before = x.digest();
            int saved = x.count(9);
            x.walk(20);
            due("saved states", x.count(9), saved + 1);
            due("next flip at the goal", x.distance(4), NONE);
            due("undo()", x.undo(), saved);
            due("digest()", x.digest(), before);
        }
    }
}
