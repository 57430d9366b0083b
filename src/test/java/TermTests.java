import java.util.ArrayList;
import java.util.List;
import java.util.Set;
import java.util.TreeSet;

/**
 * The boundary cases that the document names for all promises: "What it is" and, under "Terms",
 * polygons, locks, distances, turned and mirrored ones. One method for each sentence.
 */
public final class TermTests {
    private static final int NONE = FlipPolygons.NONE;
    private static final Checks CHECKS = new Checks();

    public static void main(String[] args) {
        changesUpToTheLastCall();
        looksUpToTheLastCall();
        cornersAtFirst();
        cornersOfEachPolygon();
        neighbors();
        firstAndLastCorner();
        lesserCornerFirst();
        oneCornerTwice();
        cornersThatAreNotThere();
        numbersInOrder();
        crossingInThePentagon();
        crossingInTheHexagon();
        masks();
        fansAtFirst();
        flipThereAndBack();
        flipAroundTheEnd();
        locksOfThePresentOne();
        lockedIsNotFlipped();
        noDistance();
        distanceWithAllLocked();
        nextFlip();
        partsAtTheEnds();
        turnedAround();
        mirroredAround();
        codesOfClasses();
        CHECKS.end();
    }

    private static void due(String call, long got, long want) {
        CHECKS.due(call, got, want);
    }

    private static FlipPolygons polygon(int n) {
        FlipPolygons x = new FlipPolygons();
        x.begin(n);
        return x;
    }

    private static int maskOf(int n, String... diagonals) {
        return PlainModel.mask(n, new TreeSet<>(List.of(diagonals)));
    }

    private static int fanMask(int n, int corner) {
        return PlainModel.mask(n, PlainModel.fanOf(n, corner));
    }

    // ---- "What it is": at most 512 calls

    private static void changesUpToTheLastCall() {
        CHECKS.about("what it is: 512 calls, all of them changes");
        FlipPolygons x = polygon(9);
        for (int call = 2; call <= 511; call++) {
            boolean there = call % 2 == 0;
            due("call " + call, there ? x.flip(0, 0, 2) : x.flip(0, 1, 3), there ? 6 : 0);
        }
        due("call 512, count(5)", x.count(5), 510);
    }

    private static void looksUpToTheLastCall() {
        CHECKS.about("what it is: 512 calls, all of them digests");
        PlainModel model = new PlainModel();
        FlipPolygons x = new FlipPolygons();
        for (int call = 1; call <= 512; call++) {
            due("call " + call, x.digest(), model.digest());
        }
    }

    // ---- polygons, diagonals, triangulations

    private static void cornersAtFirst() {
        CHECKS.about("terms: at first 6 corners, numbered from 0");
        FlipPolygons x = new FlipPolygons();
        due("count(0)", x.count(0), 6);
        due("degree(0, 0)", x.degree(0, 0), 3);
        due("degree(0, 5)", x.degree(0, 5), 0);
        CHECKS.dueRefusal(FlipPolygons::new, "degree(0, 6)", Checks.INDEX, y -> y.degree(0, 6));
        CHECKS.dueRefusal(FlipPolygons::new, "degree(0, -1)", Checks.INDEX, y -> y.degree(0, -1));
    }

    private static void cornersOfEachPolygon() {
        CHECKS.about("terms: n corners, 4 to 9, numbered from 0");
        for (int n = 4; n <= 9; n++) {
            FlipPolygons x = polygon(n);
            for (int corner = 0; corner < n; corner++) {
                int all = n - 3;
                int one = corner > 1 && corner < n - 1 ? 1 : 0;
                due("degree(1, " + corner + ") for " + n, x.degree(1, corner), corner == 0 ? all : one);
            }
        }
    }

    /** Each call that is told a diagonal refuses these corners, and changes nothing. */
    private static void dueNoDiagonal(int n, int a, int b) {
        String corners = a + ", " + b + ") for " + n;
        dueIndex(n, "flip(0, " + corners, x -> x.flip(0, a, b));
        dueIndex(n, "flip(1, " + corners, x -> x.flip(1, a, b));
        dueIndex(n, "lock(true, " + corners, x -> x.lock(a, b, true));
        dueIndex(n, "lock(false, " + corners, x -> x.lock(a, b, false));
        dueIndex(n, "number(" + corners, x -> x.number(a, b));
        dueIndex(n, "other(0, " + corners, x -> x.other(0, a, b));
        dueIndex(n, "other(1, " + corners, x -> x.other(1, a, b));
        dueIndex(n, "whyNot(" + corners, x -> x.whyNot(a, b));
        dueIndex(n, "ifFlipped(" + corners, x -> x.ifFlipped(a, b));
    }

    private static void dueIndex(int n, String name, Checks.CallOf call) {
        CHECKS.dueRefusal(() -> Scenes.busy(n), name, Checks.INDEX, call);
    }

    private static void neighbors() {
        CHECKS.about("terms, promises 3, 8, 17, 20, 21, 23: neighbors are no diagonal");
        for (int n = 4; n <= 9; n++) {
            for (int a = 0; a + 1 < n; a++) {
                dueNoDiagonal(n, a, a + 1);
            }
        }
    }

    private static void firstAndLastCorner() {
        CHECKS.about("terms, promises 3, 8, 17, 20, 21, 23: 0 and n - 1 are neighbors, too");
        for (int n = 4; n <= 9; n++) {
            dueNoDiagonal(n, 0, n - 1);
            FlipPolygons x = polygon(n);
            due("0, n - 2 for " + n, x.number(0, n - 2), n - 4);
            due("1, n - 1 for " + n, x.number(1, n - 1), 2 * n - 7);
        }
    }

    private static void lesserCornerFirst() {
        CHECKS.about("terms, promises 3, 8, 17, 20, 21, 23: a less than b");
        for (int n = 4; n <= 9; n++) {
            for (String diagonal : PlainModel.diagonals(n)) {
                dueNoDiagonal(n, diagonal.charAt(1) - '0', diagonal.charAt(0) - '0');
            }
        }
    }

    private static void oneCornerTwice() {
        CHECKS.about("terms, promises 3, 8, 17, 20, 21, 23: a diagonal joins two corners");
        for (int n = 4; n <= 9; n++) {
            dueNoDiagonal(n, 0, 0);
            dueNoDiagonal(n, 2, 2);
            dueNoDiagonal(n, n - 1, n - 1);
        }
    }

    /** Some of them would be diagonals if corners were taken modulo n, or rows ran on. */
    private static void cornersThatAreNotThere() {
        CHECKS.about("terms, promises 3, 8, 17, 20, 21, 23: corners from 0 to n - 1");
        for (int n = 4; n <= 9; n++) {
            int[][] wrong = {{-1, 1}, {-1, 2}, {-2, n - 2}, {-n, 2}, {0, n}, {0, n + 2}, {0, n + 3},
                {1, n}, {2, n}, {n - 2, n}, {n - 1, n + 1}, {n, n + 2}, {n, 2}, {-3, -1},
                {Integer.MIN_VALUE, 2}, {0, Integer.MIN_VALUE}, {1, Integer.MAX_VALUE},
                {Integer.MAX_VALUE, Integer.MAX_VALUE}, {Integer.MIN_VALUE, Integer.MAX_VALUE}};
            for (int[] corners : wrong) {
                dueNoDiagonal(n, corners[0], corners[1]);
            }
        }
    }

    private static void numbersInOrder() {
        CHECKS.about("terms, promise 17: numbers from 0 on, in the order of a, then of b");
        for (int n = 4; n <= 9; n++) {
            FlipPolygons x = polygon(n);
            due("the first one, for " + n, x.number(0, 2), 0);
            due("the last one from 0, for " + n, x.number(0, n - 2), n - 4);
            due("the first one from 1, for " + n, x.number(1, 3), n - 3);
            due("the last one, for " + n, x.number(n - 3, n - 1), n * (n - 3) / 2 - 1);
        }
    }

    /** Two diagonals of a pentagon make a triangulation if, and only if, they share a corner. */
    private static void crossingInThePentagon() {
        CHECKS.about("terms, promise 13: two diagonals with one corner do not cross");
        for (String one : PlainModel.diagonals(5)) {
            for (String two : PlainModel.diagonals(5)) {
                boolean shared = one.indexOf(two.charAt(0)) >= 0 || one.indexOf(two.charAt(1)) >= 0;
                boolean good = shared && !one.equals(two);
                FlipPolygons x = polygon(5);
                Scenes.type(x, one + "," + two);
                String want = good ? "" + maskOf(5, one, two) : Checks.STATE;
                CHECKS.due("read(0) of " + one + "," + two, Checks.outcome(() -> x.read(0)), want);
            }
        }
    }

    /** In the hexagon there are also diagonals without a common corner that do not cross. */
    private static void crossingInTheHexagon() {
        CHECKS.about("terms, promise 13: they cross if both sides of the one have the other's ends");
        List<String> read = new ArrayList<>();
        for (String one : PlainModel.diagonals(6)) {
            for (String two : PlainModel.diagonals(6)) {
                for (String three : PlainModel.diagonals(6)) {
                    FlipPolygons x = new FlipPolygons();
                    Scenes.type(x, one + "," + two + "," + three);
                    String answer = Checks.outcome(() -> x.read(1));
                    if (!answer.equals(Checks.STATE)) {
                        read.add(answer);
                    }
                }
            }
        }
        due("14 triangulations, each told in 6 orders", read.size(), 84);
        due("the masks that come", new TreeSet<>(read).size(), 14);
        CHECKS.isTrue("13, 14 and 04 are one", read.contains("" + maskOf(6, "13", "14", "04")));
        CHECKS.isTrue("02 and 35, 03 are one", read.contains("" + maskOf(6, "02", "35", "03")));
    }

    private static void masks() {
        CHECKS.about("terms, promise 18: the mask has the bit k for the number k");
        due("the square's", Scenes.polygon(4, "13", "02").triangulation(0, 0), 2);
        FlipPolygons x = Scenes.polygon(9, "02,03,04,05,06,68", "13,14,15,16,17,18");
        due("from the lowest bit to the highest", x.triangulation(0, 0), 31 + (1 << 26));
        due("the bits of the second row", x.triangulation(1, 0), 63 << 6);
    }

    private static void fansAtFirst() {
        CHECKS.about("terms, promises 1 and 2: both are the fan of 0 at first");
        FlipPolygons first = new FlipPolygons();
        due("the present one of a new object", first.triangulation(0, 0), 7);
        due("the goal of a new object", first.triangulation(1, 0), 7);
        for (int n = 4; n <= 9; n++) {
            FlipPolygons x = new FlipPolygons();
            x.fan(0, 2);
            x.fan(1, 3);
            x.begin(n);
            due("the present one of " + n, x.triangulation(0, 0), (1 << (n - 3)) - 1);
            due("the goal of " + n, x.triangulation(1, 0), (1 << (n - 3)) - 1);
        }
    }

    private static void flipThereAndBack() {
        CHECKS.about("terms, promises 3 and 20: the other diagonal of the four corners");
        for (int n = 4; n <= 9; n++) {
            for (int corner = 0; corner < n; corner++) {
                for (String out : PlainModel.fanOf(n, corner)) {
                    dueThereAndBack(n, corner, out);
                }
            }
        }
    }

    /** In a fan the other diagonal joins the corners before and behind the far end. */
    private static void dueThereAndBack(int n, int corner, String out) {
        int far = out.charAt(0) - '0' == corner ? out.charAt(1) - '0' : out.charAt(0) - '0';
        int one = (far + 1) % n;
        int two = (far + n - 1) % n;
        int a = Math.min(one, two);
        int b = Math.max(one, two);
        FlipPolygons x = polygon(n);
        x.fan(0, corner);
        int in = PlainModel.diagonals(n).indexOf("" + a + b);
        String name = out + " of the fan of " + corner + " for " + n;
        due("other, " + name, x.other(0, out.charAt(0) - '0', out.charAt(1) - '0'), in);
        due("flip, " + name, x.flip(0, out.charAt(0) - '0', out.charAt(1) - '0'), in);
        due("mask, " + name, x.triangulation(0, 0), fanMask(n, corner) ^ maskOf(n, out) | 1 << in);
        due("flip back, " + name, x.flip(0, a, b), PlainModel.diagonals(n).indexOf(out));
        due("mask, back, " + name, x.triangulation(0, 0), fanMask(n, corner));
    }

    private static void flipAroundTheEnd() {
        CHECKS.about("terms, promise 3: four corners on both sides of corner 0");
        FlipPolygons x = Scenes.polygon(9, "18,17,16,15,14,13", "02,04,06,24,46,68");
        due("18, between 0 and 7", x.flip(0, 1, 8), 5);
        due("04, between 2 and 6", x.flip(1, 0, 4), 14);
        due("06, between 2 and 8", x.flip(1, 0, 6), 16);
        due("02, between 1 and 8", x.flip(1, 0, 2), 11);
        due("present", x.triangulation(0, 0), maskOf(9, "07", "17", "16", "15", "14", "13"));
        due("goal", x.triangulation(1, 0), maskOf(9, "18", "24", "26", "28", "46", "68"));
    }

    // ---- locks, distances

    private static void locksOfThePresentOne() {
        CHECKS.about("terms, promise 8: diagonals of the present triangulation can be locked");
        for (int n = 4; n <= 9; n++) {
            List<String> fan = new ArrayList<>(PlainModel.fanOf(n, 0));
            for (String diagonal : PlainModel.diagonals(n)) {
                int a = diagonal.charAt(0) - '0';
                int b = diagonal.charAt(1) - '0';
                int corners = n;
                Checks.CallOf lock = x -> x.lock(a, b, true);
                if (fan.contains(diagonal)) {
                    due("lock of " + diagonal, lock.answer(fansOf0And1(corners)), 1);
                } else {
                    CHECKS.dueRefusal(() -> fansOf0And1(corners), "lock of " + diagonal, Checks.STATE, lock);
                }
            }
        }
    }

    private static FlipPolygons fansOf0And1(int n) {
        FlipPolygons x = polygon(n);
        x.fan(1, 1);
        return x;
    }

    private static FlipPolygons allLocked(int n) {
        FlipPolygons x = polygon(n);
        for (int b = 2; b < n - 1; b++) {
            x.lock(0, b, true);
        }
        return x;
    }

    private static void lockedIsNotFlipped() {
        CHECKS.about("terms, promises 3 and 21: a locked one cannot be flipped");
        for (int n = 4; n <= 9; n++) {
            for (int b = 2; b < n - 1; b++) {
                int end = b;
                int corners = n;
                CHECKS.dueRefusal(() -> allLocked(corners), "flip(0, 0, " + b + ") for " + n,
                        Checks.STATE, x -> x.flip(0, 0, end));
                FlipPolygons x = allLocked(n);
                due("whyNot(0, " + b + ")", x.whyNot(0, b), 2);
                due("the goal's is not locked", x.flip(1, 0, b), x.other(0, 0, b));
                x.lock(0, b, false);
                due("whyNot, unlocked", x.whyNot(0, b), 0);
                due("flip(0, 0, " + b + "), unlocked", x.flip(0, 0, b), x.number(b - 1, b + 1));
            }
        }
    }

    private static FlipPolygons oneFlipAway(int n, boolean locked) {
        FlipPolygons x = polygon(n);
        x.flip(1, 0, 2);
        x.lock(0, 2, locked);
        return x;
    }

    private static void noDistance() {
        CHECKS.about("terms, promises 9 and 22: no distance if a locked one is not in the goal");
        for (int n = 4; n <= 9; n++) {
            int corners = n;
            FlipPolygons x = oneFlipAway(n, true);
            int[] want = {NONE, 1, 1, 0, NONE, n - 4};
            for (int what = 0; what <= 5; what++) {
                due("distance(" + what + "), 02 locked, for " + n, x.distance(what), want[what]);
            }
            due("ifFlipped(0, 2), locked", x.ifFlipped(0, 2), 0);
            for (int flips : new int[] {1, 20}) {
                CHECKS.dueRefusal(() -> oneFlipAway(corners, true), "walk(" + flips + ") for " + n,
                        Checks.STATE, y -> y.walk(flips));
            }
            due("distance(0), not locked", oneFlipAway(n, false).distance(0), 1);
        }
        FlipPolygons other = oneFlipAway(6, false);
        other.lock(0, 3, true);
        due("distance(0), 03 locked, which both have", other.distance(0), 1);
    }

    private static void distanceWithAllLocked() {
        CHECKS.about("terms, promises 9 and 22: all are locked");
        for (int n = 4; n <= 9; n++) {
            FlipPolygons x = allLocked(n);
            int[] want = {0, 0, 0, 1, NONE, n - 3};
            for (int what = 0; what <= 5; what++) {
                due("distance(" + what + ") for " + n, x.distance(what), want[what]);
            }
            due("walk(20) for " + n, x.walk(20), 0);
            x.lock(0, 2, false);
            x.flip(1, 0, 2);
            due("one is not locked, for " + n, x.distance(0), 1);
            due("walk(20) for " + n, x.walk(20), 1);
            due("all others stay locked, for " + n, x.count(6), n - 4);
        }
    }

    private static void nextFlip() {
        CHECKS.about("terms, promises 9 and 22: the next flip has the lowest number of those nearer");
        FlipPolygons x = Scenes.polygon(6, "02,03,04", "13,03,35");
        due("02 and 04 come nearer", x.distance(4), 0);
        FlipPolygons last = Scenes.polygon(6, "02,03,04", "02,03,35");
        due("04 alone comes nearer", last.distance(4), 2);
        FlipPolygons locked = Scenes.polygon(6, "02,03,04", "02,03,35");
        locked.lock(0, 2, true);
        locked.lock(0, 3, true);
        due("04 alone is not locked", locked.distance(4), 2);
        FlipPolygons highest = Scenes.polygon(9, "02,03,04,05,06,68", "02,03,04,05,06,07");
        due("68, with the last number of all", highest.distance(4), 26);
        due("walk(1)", highest.walk(1), 1);
        due("no next flip at the goal", highest.distance(4), NONE);
    }

    private static void partsAtTheEnds() {
        CHECKS.about("terms, promise 22: parts, from one to all triangles, and at the corner 0");
        for (int n = 4; n <= 9; n++) {
            FlipPolygons x = polygon(n);
            due("all in common, for " + n, x.distance(2), 0);
            x.fan(1, 1);
            due("nothing in common, for " + n, x.distance(2), n - 3);
            due("free, for " + n, x.distance(1), n - 3);
        }
        // 26 cuts the pentagons 2 3 4 5 6 and 6 7 0 1 2; in each the way is 2 flips of 5 around
        FlipPolygons around = Scenes.polygon(8, "26,24,25,06,16", "26,35,36,17,27");
        due("two parts, the one around the end", around.distance(2), 4);
        due("free", around.distance(1), 4);
        due("ways", around.distance(3), 6);
    }

    // ---- turned and mirrored ones

    private static void turnedAround() {
        CHECKS.about("terms, promise 5: the corner v becomes (v + k) modulo n");
        for (int n = 4; n <= 9; n++) {
            for (int k = 0; k <= 8; k++) {
                for (int corner = 0; corner < n; corner++) {
                    FlipPolygons x = polygon(n);
                    x.fan(1, corner);
                    String name = "turn(1, " + k + ") of the fan of " + corner + " for " + n;
                    due(name, x.turn(1, k), fanMask(n, (corner + k) % n));
                    due("the goal behind " + name, x.triangulation(1, 0), fanMask(n, (corner + k) % n));
                }
            }
        }
    }

    private static void mirroredAround() {
        CHECKS.about("terms, promise 6: the corner v becomes n - 1 - v");
        for (int n = 4; n <= 9; n++) {
            for (int corner = 0; corner < n; corner++) {
                FlipPolygons x = polygon(n);
                x.fan(0, corner);
                String name = "mirror(0) of the fan of " + corner + " for " + n;
                due(name, x.mirror(0), fanMask(n, n - 1 - corner));
                due(name + ", back", x.mirror(0), fanMask(n, corner));
            }
        }
    }

    /** The hexagon has 6 fans, 6 zigzags, which turn into one another or mirror so, 2 triangles. */
    private static void codesOfClasses() {
        CHECKS.about("terms, promise 18: the code is the least of all, mirrored ones too");
        int[] found = new int[70];
        for (Set<String> set : PlainModel.graph(6).keySet()) {
            FlipPolygons x = new FlipPolygons();
            Scenes.put(x, 0, String.join(",", set));
            found[x.triangulation(0, 1)]++;
        }
        due("fans", found[1 + 2 + 4], 6);
        due("zigzags", found[2 + 4 + 8], 6);
        due("triangles", found[1 + 4 + 64], 2);
    }
}
