import java.util.List;
import java.util.Set;
import java.util.TreeSet;

/** The boundary cases of the promises 17 to 26: each range, the least and the greatest answers. */
public final class LookEdgeTests {
    private static final int NONE = FlipPolygons.NONE;
    private static final Checks CHECKS = new Checks();
    private static final int LEAST = Integer.MIN_VALUE;
    private static final int MOST = Integer.MAX_VALUE;
    private static final int[] NO_TRIANGULATION = {-1, 2, 3, LEAST, MOST};

    public static void main(String[] args) {
        constant();
        numberOfEach();
        numberRefused();
        triangulationInRange();
        triangulationOutOfRange();
        triangulationRefusedInOrder();
        triangulationsOfTheSquare();
        symmetriesFromOneToAll();
        earsFromTwoToHalf();
        greatestDegreeFromTwoToAll();
        eccentricityIsFree();
        leastOfTheFarthest();
        degreeOfEachCorner();
        degreeOutOfRange();
        otherInRange();
        otherOutOfRange();
        otherOfWhatIsNotThere();
        otherOfLocked();
        whyNotOfEach();
        whyNotIsOfThePresentOne();
        distanceInRange();
        distanceOutOfRange();
        distanceAtTheGoal();
        distanceOfTheFarthest();
        distanceOfWhatIsThereNow();
        distanceWithOtherLocks();
        ifFlippedNotThere();
        ifFlippedAtAndToTheGoal();
        ifFlippedLocked();
        countInRange();
        countOutOfRange();
        countsOfLocks();
        countsOfSnapshots();
        countsOfSavedStates();
        countOfFlips();
        farShareFromNoneToAll();
        farShareIsFree();
        digestOfEachBuffer();
        digestOfEachSize();
        digestChangesNothing();
        CHECKS.end();
    }

    private static void due(String call, long got, long want) {
        CHECKS.due(call, got, want);
    }

    private static FlipPolygons polygon(int n) {
        FlipPolygons x = new FlipPolygons();
        x.begin(n);
        return x;
    }

    /** The refusal of a call on a busy object of each size. */
    private static void dueRefusal(String name, String exception, Checks.CallOf call) {
        for (int n = 4; n <= 9; n++) {
            int corners = n;
            CHECKS.dueRefusal(() -> Scenes.busy(corners), name + " for " + n, exception, call);
        }
    }

    // ---- the constant, promise 17

    private static void constant() {
        CHECKS.about("the constant");
        due("NONE", FlipPolygons.NONE, -1);
    }

    private static void numberOfEach() {
        CHECKS.about("promise 17: each diagonal of each n");
        for (int n = 4; n <= 9; n++) {
            FlipPolygons x = polygon(n);
            int next = 0;
            for (int a = 0; a < n; a++) {
                for (int b = a + 2; b < n; b++) {
                    if (a != 0 || b != n - 1) {
                        due("number(" + a + ", " + b + ") for " + n, x.number(a, b), next);
                        next++;
                    }
                }
            }
            due("all of them", next, x.count(1));
        }
    }

    private static void numberRefused() {
        CHECKS.about("promise 17: a and b are no diagonal; the rest is in TermTests");
        dueRefusal("number(0, n - 1)", Checks.INDEX, x -> x.number(0, x.count(0) - 1));
        dueRefusal("number(n - 1, n + 1)", Checks.INDEX, x -> x.number(x.count(0) - 1, x.count(0) + 1));
        dueRefusal("number(-1, 1)", Checks.INDEX, x -> x.number(-1, 1));
    }

    // ---- promise 18

    private static void triangulationInRange() {
        CHECKS.about("promise 18: which is 0 or 1, what is 0 to 6");
        // the hexagon's fan of 1 and its triangle 0 2 4
        FlipPolygons x = Scenes.polygon(6, "13,14,15", "02,04,24");
        int[] present = {8 + 16 + 32, 7, 2, 2, 3};
        int[] goal = {1 + 4 + 64, 1 + 4 + 64, 6, 3, 2};
        for (int what = 0; what <= 4; what++) {
            due("triangulation(0, " + what + ")", x.triangulation(0, what), present[what]);
            due("triangulation(1, " + what + ")", x.triangulation(1, what), goal[what]);
        }
        due("triangulation(0, 5)", x.triangulation(0, 5), farthest(6, "13,14,15"));
        due("triangulation(0, 6)", x.triangulation(0, 6), leastFarthest(6, "13,14,15"));
        due("triangulation(1, 5)", x.triangulation(1, 5), farthest(6, "02,04,24"));
        due("triangulation(1, 6)", x.triangulation(1, 6), leastFarthest(6, "02,04,24"));
    }

    private static Set<String> setOf(String text) {
        return new TreeSet<>(List.of(text.split(",")));
    }

    /** By parts, which the model counts on another way than its and the program's rows. */
    private static int farthest(int n, String text) {
        int most = 0;
        for (Set<String> to : PlainModel.graph(n).keySet()) {
            most = Math.max(most, PlainModel.byParts(n, setOf(text), to));
        }
        return most;
    }

    private static int leastFarthest(int n, String text) {
        int least = MOST;
        int most = farthest(n, text);
        for (Set<String> to : PlainModel.graph(n).keySet()) {
            if (PlainModel.byParts(n, setOf(text), to) == most) {
                least = Math.min(least, PlainModel.mask(n, to));
            }
        }
        return least;
    }

    private static void triangulationOutOfRange() {
        CHECKS.about("promise 18: which is not 0 or 1; what is not 0 to 6");
        for (int which : NO_TRIANGULATION) {
            dueRefusal("triangulation(" + which + ", 0)", Checks.INDEX, x -> x.triangulation(which, 0));
            dueRefusal("triangulation(" + which + ", 6)", Checks.INDEX, x -> x.triangulation(which, 6));
        }
        for (int what : new int[] {-1, 7, 8, LEAST, MOST}) {
            dueRefusal("triangulation(0, " + what + ")", Checks.ARGUMENT, x -> x.triangulation(0, what));
            dueRefusal("triangulation(1, " + what + ")", Checks.ARGUMENT, x -> x.triangulation(1, what));
        }
    }

    private static void triangulationRefusedInOrder() {
        CHECKS.about("promise 18: IndexOutOfBoundsException before IllegalArgumentException");
        dueRefusal("triangulation(2, 7)", Checks.INDEX, x -> x.triangulation(2, 7));
        dueRefusal("triangulation(-1, -1)", Checks.INDEX, x -> x.triangulation(-1, -1));
    }

    private static void triangulationsOfTheSquare() {
        CHECKS.about("promise 18: the smallest polygon");
        FlipPolygons x = Scenes.polygon(4, "02", "13");
        int[] present = {1, 1, 4, 2, 1, 1, 2};
        int[] goal = {2, 1, 4, 2, 1, 1, 1};
        for (int what = 0; what <= 6; what++) {
            due("triangulation(0, " + what + ")", x.triangulation(0, what), present[what]);
            due("triangulation(1, " + what + ")", x.triangulation(1, what), goal[what]);
        }
    }

    private static void symmetriesFromOneToAll() {
        CHECKS.about("promise 18: by how many of all 2 n it becomes itself");
        due("by none but the turn by 0", Scenes.polygon(7, "02,03,04,46", "02,03,04,05")
                .triangulation(0, 2), 1);
        due("by one mirroring, too", polygon(7).triangulation(0, 2), 2);
        due("by one turn, too", Scenes.polygon(6, "13,14,04", "02,03,04").triangulation(0, 2), 2);
        due("by three of each", Scenes.polygon(6, "13,15,35", "02,03,04").triangulation(0, 2), 6);
        due("by two of each, of the square", polygon(4).triangulation(0, 2), 4);
        due("by three turns and no mirroring", Scenes.polygon(9, "02,03,35,36,68,06",
                "02,03,04,05,06,07").triangulation(0, 2), 3);
    }

    private static void earsFromTwoToHalf() {
        CHECKS.about("promise 18: ears, from two to half of the corners");
        for (int n = 4; n <= 9; n++) {
            due("of a fan, for " + n, polygon(n).triangulation(1, 3), 2);
        }
        due("of 6", Scenes.polygon(6, "02,24,04", "02,03,04").triangulation(0, 3), 3);
        due("of 8", Scenes.polygon(8, "02,24,46,06,26", "02,03,04,05,06").triangulation(0, 3), 4);
        due("of 9", Scenes.polygon(9, "02,24,46,68,26,28", "02,03,04,05,06,07").triangulation(0, 3), 4);
    }

    private static void greatestDegreeFromTwoToAll() {
        CHECKS.about("promise 18: the greatest number of diagonals with one corner");
        for (int n = 4; n <= 9; n++) {
            for (int corner = 0; corner < n; corner++) {
                FlipPolygons x = polygon(n);
                x.fan(0, corner);
                due("of the fan of " + corner + " for " + n, x.triangulation(0, 4), n - 3);
            }
        }
        due("of a zigzag", Scenes.polygon(9, "07,17,16,26,25,35",
                "02,03,04,05,06,07").triangulation(0, 4), 2);
    }

    private static void eccentricityIsFree() {
        CHECKS.about("promise 18: the greatest free distance, whatever is locked");
        for (int n = 4; n <= 9; n++) {
            FlipPolygons x = polygon(n);
            int most = x.triangulation(0, 5);
            int least = x.triangulation(0, 6);
            for (int b = 2; b <= n - 2; b++) {
                x.lock(0, b, true);
            }
            due("all locked, for " + n, x.triangulation(0, 5), most);
            due("the least mask, all locked, for " + n, x.triangulation(0, 6), least);
            due("a fan is n - 3 from all at most", most, n - 3);
        }
    }

    private static void leastOfTheFarthest() {
        CHECKS.about("promise 18: the least mask of those so far from it");
        // n - 3 from the fan of 0 is each one without a diagonal of 0; the least has 13, 14, ..
        for (int n = 4; n <= 9; n++) {
            FlipPolygons x = polygon(n);
            int least = PlainModel.mask(n, PlainModel.fanOf(n, 1));
            for (Set<String> set : PlainModel.graph(n).keySet()) {
                int mask = PlainModel.mask(n, set);
                least = (mask & (1 << (n - 3)) - 1) == 0 ? Math.min(least, mask) : least;
            }
            due("from the fan of 0, for " + n, x.triangulation(0, 6), least);
            due("from the goal, for " + n, x.triangulation(1, 6), least);
        }
    }

    // ---- promise 19

    private static void degreeOfEachCorner() {
        CHECKS.about("promise 19: corners 0 to n - 1, from no diagonal to all");
        for (int n = 4; n <= 9; n++) {
            FlipPolygons x = polygon(n);
            x.fan(1, n - 1);
            due("degree(0, 0)", x.degree(0, 0), n - 3);
            due("degree(0, n - 1)", x.degree(0, n - 1), 0);
            due("degree(1, n - 1)", x.degree(1, n - 1), n - 3);
            due("degree(1, 0)", x.degree(1, 0), 0);
            due("degree(1, 1)", x.degree(1, 1), 1);
        }
    }

    private static void degreeOutOfRange() {
        CHECKS.about("promise 19: which is not 0 or 1, or there is no such corner");
        for (int which : NO_TRIANGULATION) {
            dueRefusal("degree(" + which + ", 0)", Checks.INDEX, x -> x.degree(which, 0));
            dueRefusal("degree(" + which + ", 9)", Checks.INDEX, x -> x.degree(which, 9));
        }
        for (int which = 0; which <= 1; which++) {
            int of = which;
            dueRefusal("degree(" + of + ", n)", Checks.INDEX, x -> x.degree(of, x.count(0)));
            for (int corner : new int[] {-1, 9, LEAST, MOST}) {
                dueRefusal("degree(" + of + ", " + corner + ")", Checks.INDEX, x -> x.degree(of, corner));
            }
        }
    }

    // ---- promise 20

    private static void otherInRange() {
        CHECKS.about("promise 20: which is 0 or 1; nothing is flipped");
        for (int n = 4; n <= 9; n++) {
            FlipPolygons x = polygon(n);
            x.fan(1, 1);
            long before = x.digest();
            due("other(0, 0, 2) for " + n, x.other(0, 0, 2), n - 3);
            due("other(0, 0, n - 2) for " + n, x.other(0, 0, n - 2), x.count(1) - 1);
            due("other(1, 1, n - 1) for " + n, x.other(1, 1, n - 1), n - 4);
            due("digest()", x.digest(), before);
        }
    }

    private static void otherOutOfRange() {
        CHECKS.about("promise 20: which is not 0 or 1");
        for (int which : NO_TRIANGULATION) {
            dueRefusal("other(" + which + ", 1, 3), there", Checks.INDEX, x -> x.other(which, 1, 3));
            dueRefusal("other(" + which + ", 0, 2), not there", Checks.INDEX, x -> x.other(which, 0, 2));
        }
    }

    private static void otherOfWhatIsNotThere() {
        CHECKS.about("promise 20: NONE if it is not in this triangulation");
        for (int n = 4; n <= 9; n++) {
            FlipPolygons x = polygon(n);
            x.fan(1, 1);
            for (int b = 3; b < n; b++) {
                due("other(0, 1, " + b + "), in the goal alone", x.other(0, 1, b), NONE);
            }
            for (int b = 2; b < n - 1; b++) {
                due("other(1, 0, " + b + "), in the present one alone", x.other(1, 0, b), NONE);
            }
        }
    }

    private static void otherOfLocked() {
        CHECKS.about("promise 20: whether it is locked does not matter");
        for (int n = 4; n <= 9; n++) {
            FlipPolygons x = polygon(n);
            for (int b = 2; b < n - 1; b++) {
                int before = x.other(0, 0, b);
                x.lock(0, b, true);
                due("other(0, 0, " + b + "), locked, for " + n, x.other(0, 0, b), before);
                due("it is no diagonal of 0", before >= n - 3 ? 1 : 0, 1);
            }
        }
    }

    // ---- promise 21

    private static void whyNotOfEach() {
        CHECKS.about("promise 21: 0 if it can be, 1 if it is not there, 2 if it is locked");
        for (int n = 4; n <= 9; n++) {
            FlipPolygons x = polygon(n);
            x.lock(0, n - 2, true);
            for (String diagonal : PlainModel.diagonals(n)) {
                int a = diagonal.charAt(0) - '0';
                int b = diagonal.charAt(1) - '0';
                int there = b == n - 2 ? 2 : 0;
                due("whyNot(" + a + ", " + b + ") for " + n, x.whyNot(a, b), a == 0 ? there : 1);
            }
        }
    }

    private static void whyNotIsOfThePresentOne() {
        CHECKS.about("promise 21: a diagonal of the goal alone is not there");
        for (int n = 4; n <= 9; n++) {
            FlipPolygons x = polygon(n);
            x.fan(1, 1);
            due("whyNot(1, 3), for " + n, x.whyNot(1, 3), 1);
            x.exchange();
            due("whyNot(1, 3), exchanged, for " + n, x.whyNot(1, 3), 0);
            due("whyNot(0, 2), exchanged, for " + n, x.whyNot(0, 2), 1);
        }
    }

    // ---- promise 22

    private static void dueDistances(String name, FlipPolygons x, int... want) {
        for (int what = 0; what < want.length; what++) {
            due("distance(" + what + ") " + name, x.distance(what), want[what]);
        }
    }

    private static void distanceInRange() {
        CHECKS.about("promise 22: what is 0 to 5");
        dueDistances("of the square", Scenes.polygon(4, "02", "13"), 1, 1, 1, 1, 0, 0);
        dueDistances("of the pentagon", Scenes.polygon(5, "02,24", "02,03"), 1, 1, 1, 1, 4, 1);
        dueDistances("of two parts", Scenes.polygon(6, "03,02,04", "03,13,35"), 2, 2, 2, 2, 0, 1);
    }

    private static void distanceOutOfRange() {
        CHECKS.about("promise 22: what is not 0 to 5");
        for (int what : new int[] {-1, 6, 7, LEAST, MOST}) {
            dueRefusal("distance(" + what + ")", Checks.ARGUMENT, x -> x.distance(what));
        }
    }

    private static void distanceAtTheGoal() {
        CHECKS.about("promise 22: 0, one way and no next flip if both are the same");
        for (int n = 4; n <= 9; n++) {
            FlipPolygons x = polygon(n);
            dueDistances("for " + n, x, 0, 0, 0, 1, NONE, n - 3);
            x.lock(0, 2, true);
            dueDistances("for " + n + ", one is locked", x, 0, 0, 0, 1, NONE, n - 3);
        }
    }

    private static void distanceOfTheFarthest() {
        CHECKS.about("promise 22: the greatest distance of each n; the next flip to the very end");
        for (int n = 4; n <= 9; n++) {
            int most = 0;
            for (Set<String> set : PlainModel.graph(n).keySet()) {
                FlipPolygons x = polygon(n);
                Scenes.put(x, 0, String.join(",", set));
                if (x.triangulation(0, 5) > most) {
                    most = x.triangulation(0, 5);
                    dueWayToFarthest(x, n);
                }
            }
            due("count(4) for " + n, polygon(n).count(4), most);
        }
    }

    private static void dueWayToFarthest(FlipPolygons x, int n) {
        x.exchange();
        StringBuilder far = new StringBuilder();
        for (String diagonal : PlainModel.diagonals(n)) {
            int bit = x.number(diagonal.charAt(0) - '0', diagonal.charAt(1) - '0');
            if ((x.triangulation(1, 6) >> bit & 1) == 1) {
                far.append(far.length() == 0 ? "" : ",").append(diagonal);
            }
        }
        Scenes.put(x, 0, far.toString());
        for (int left = x.triangulation(1, 5); left > 0; left--) {
            due("distance(0) for " + n, x.distance(0), left);
            due("distance(2) for " + n, x.distance(2), left);
            CHECKS.isTrue("there are ways", x.distance(3) >= 1);
            String next = PlainModel.diagonals(n).get(x.distance(4));
            due("ifFlipped", x.ifFlipped(next.charAt(0) - '0', next.charAt(1) - '0'), left - 1);
            due("walk(1)", x.walk(1), 1);
        }
        due("distance(0) at the end", x.distance(0), 0);
    }

    private static void distanceOfWhatIsThereNow() {
        CHECKS.about("promise 22: asked again, each time for what is there by then");
        FlipPolygons x = Scenes.polygon(6, "02,03,04", "03,13,35");
        dueDistances("at first", x, 2, 2, 2, 2, 0, 1);
        x.flip(0, 0, 2);
        dueDistances("behind the flip of 02", x, 1, 1, 1, 1, 2, 2);
        x.flip(1, 3, 5);
        dueDistances("behind the flip of 35 in the goal", x, 0, 0, 0, 1, NONE, 3);
        x.begin(4);
        x.flip(1, 0, 2);
        dueDistances("of the square", x, 1, 1, 1, 1, 0, 0);
        x.undo();
        x.undo();
        x.undo();
        dueDistances("behind three undos", x, 1, 1, 1, 1, 2, 2);
    }

    private static void distanceWithOtherLocks() {
        CHECKS.about("promise 22: the locks as they are now");
        FlipPolygons x = polygon(6);
        x.lock(0, 2, true);
        dueDistances("02 locked", x, 0, 0, 0, 1, NONE, 3);
        x.lock(0, 2, false);
        x.flip(0, 0, 2);
        x.lock(0, 4, true);
        dueDistances("04 locked, 02 flipped", x, 1, 1, 1, 1, 3, 2);
        x.lock(1, 3, true);
        dueDistances("13 locked, too", x, NONE, 1, 1, 0, NONE, 2);
        x.lock(1, 3, false);
        dueDistances("04 locked alone", x, 1, 1, 1, 1, 3, 2);
    }

    // ---- promise 23

    private static void ifFlippedNotThere() {
        CHECKS.about("promise 23: NONE if it is not in the present triangulation");
        for (int n = 4; n <= 9; n++) {
            FlipPolygons x = polygon(n);
            x.fan(1, 1);
            for (int b = 3; b < n; b++) {
                due("ifFlipped(1, " + b + "), in the goal alone, for " + n, x.ifFlipped(1, b), NONE);
            }
        }
    }

    private static void ifFlippedAtAndToTheGoal() {
        CHECKS.about("promise 23: 1 behind a flip at the goal, 0 behind the last one");
        for (int n = 4; n <= 9; n++) {
            FlipPolygons x = polygon(n);
            for (int b = 2; b <= n - 2; b++) {
                due("ifFlipped(0, " + b + ") at the goal, for " + n, x.ifFlipped(0, b), 1);
            }
            x.flip(1, 0, n - 2);
            due("ifFlipped(0, n - 2), for " + n, x.ifFlipped(0, n - 2), 0);
            due("the present one stays", x.triangulation(0, 0), (1 << (n - 3)) - 1);
            due("flips so far", x.count(5), 1);
        }
    }

    private static void ifFlippedLocked() {
        CHECKS.about("promise 23: whether it is locked does not matter");
        for (int n = 4; n <= 9; n++) {
            FlipPolygons x = polygon(n);
            x.fan(1, 1);
            for (int b = 2; b <= n - 2; b++) {
                int before = x.ifFlipped(0, b);
                x.lock(0, b, true);
                due("ifFlipped(0, " + b + "), locked, for " + n, x.ifFlipped(0, b), before);
            }
            due("the first flip comes nearer", x.ifFlipped(0, 2), n - 4);
        }
    }

    // ---- promise 24

    private static void countInRange() {
        CHECKS.about("promise 24: what is 0 to 9, for each n");
        int[][] polygons = {{4, 2, 2, 1, 1}, {5, 5, 5, 1, 2}, {6, 9, 14, 3, 4}, {7, 14, 42, 4, 5},
            {8, 20, 132, 12, 7}, {9, 27, 429, 27, 9}};
        int[] states = {0, 0, 0, 0, 1};
        for (int[] numbers : polygons) {
            for (int what = 0; what <= 4; what++) {
                FlipPolygons x = polygon(numbers[0]);
                due("count(" + what + ") for " + numbers[0], x.count(what), numbers[what]);
                due("count(" + (what + 5) + ") for " + numbers[0], x.count(what + 5), states[what]);
            }
        }
    }

    private static void countOutOfRange() {
        CHECKS.about("promise 24: what is not 0 to 9");
        for (int what : new int[] {-1, 10, 11, LEAST, MOST}) {
            dueRefusal("count(" + what + ")", Checks.ARGUMENT, x -> x.count(what));
        }
    }

    private static void countsOfLocks() {
        CHECKS.about("promise 24: locked diagonals, from none to all");
        for (int n = 4; n <= 9; n++) {
            FlipPolygons x = polygon(n);
            x.fan(0, n - 1);
            int mask = 0;
            due("count(6), none", x.count(6), 0);
            for (int a = 1; a <= n - 3; a++) {
                x.lock(a, n - 1, true);
                mask |= 1 << x.number(a, n - 1);
                due("count(6)", x.count(6), a);
                due("count(7)", x.count(7), mask);
            }
        }
    }

    private static void countsOfSnapshots() {
        CHECKS.about("promise 24: snapshots that are taken, from none to two");
        FlipPolygons x = new FlipPolygons();
        due("none", x.count(8), 0);
        x.take(1);
        due("one", x.count(8), 1);
        x.take(1);
        due("the same again", x.count(8), 1);
        x.take(0);
        due("two", x.count(8), 2);
        x.restore(0);
        x.undo();
        due("two behind restore(0) and undo()", x.count(8), 2);
    }

    private static void countsOfSavedStates() {
        CHECKS.about("promise 24: saved states, from none to six");
        FlipPolygons x = new FlipPolygons();
        for (int made = 0; made <= 8; made++) {
            due("behind " + made + " calls", x.count(9), Math.min(made, 6));
            x.mirror(1);
        }
    }

    private static void countOfFlips() {
        CHECKS.about("promise 24: flips so far, by flip() of both and by walk(), by no other call");
        FlipPolygons x = new FlipPolygons();
        x.fan(0, 1);
        x.turn(1, 2);
        x.mirror(0);
        x.exchange();
        x.begin(7);
        x.ifFlipped(0, 2);
        x.other(0, 0, 2);
        due("none", x.count(5), 0);
        x.flip(0, 0, 2);
        due("of the present one", x.count(5), 1);
        x.flip(1, 0, 3);
        due("of the goal", x.count(5), 2);
        int made = x.walk(20);
        due("by walk()", x.count(5), 2 + made);
        x.walk(20);
        due("by walk() at the goal", x.count(5), 2 + made);
        x.begin(4);
        due("it stays", x.count(5), 2 + made);
        CHECKS.due("a refused flip", Checks.outcome(() -> x.flip(0, 1, 3)), Checks.STATE);
        due("it stays", x.count(5), 2 + made);
        x.undo();
        x.undo();
        x.undo();
        due("behind undo()", x.count(5), 2);
    }

    // ---- promise 25

    private static void dueShare(String name, FlipPolygons x, double want) {
        due(name, Double.doubleToRawLongBits(x.farShare()), Double.doubleToRawLongBits(want));
    }

    private static void farShareFromNoneToAll() {
        CHECKS.about("promise 25: from 0 at the goal to 1");
        for (int n = 4; n <= 9; n++) {
            dueShare("at the goal, for " + n, polygon(n), 0.0);
            FlipPolygons x = polygon(n);
            x.fan(1, 1);
            dueShare("n - 3 flips, for " + n, x, (double) (n - 3) / x.count(4));
        }
        dueShare("all, for 4", Scenes.polygon(4, "02", "13"), 1.0);
        dueShare("all, for 5", Scenes.polygon(5, "02,03", "13,14"), 2.0 / 2.0);
        dueShare("one of 9", Scenes.polygon(9, "02,03,04,05,06,07", "13,03,04,05,06,07"), 1.0 / 9.0);
    }

    private static void farShareIsFree() {
        CHECKS.about("promise 25: the free distance, also if there is no distance");
        FlipPolygons x = Scenes.polygon(4, "02", "13");
        x.lock(0, 2, true);
        due("distance(0)", x.distance(0), NONE);
        dueShare("locked", x, 1.0);
    }

    // ---- promise 26

    private static void digestOfEachBuffer() {
        CHECKS.about("promise 26: the empty buffer, the full one, and the first and the last code");
        for (String text : new String[] {"", "!", "~", "!~", "~".repeat(59), "!".repeat(60)}) {
            FlipPolygons x = new FlipPolygons();
            Scenes.type(x, text);
            due("digest() with " + text, x.digest(), Scenes.digestOf(x, text));
        }
        FlipPolygons one = new FlipPolygons();
        FlipPolygons two = new FlipPolygons();
        Scenes.type(one, "12");
        Scenes.type(two, "21");
        CHECKS.isTrue("the order matters", one.digest() != two.digest());
    }

    private static void digestOfEachSize() {
        CHECKS.about("promise 26: each n, with and without a distance");
        for (int n = 4; n <= 9; n++) {
            FlipPolygons x = Scenes.busy(n);
            due("digest() for " + n, x.digest(), Scenes.digestOf(x, "02;"));
            FlipPolygons y = Scenes.busy(n);
            y.fan(1, 2);
            due("distance(0) for " + n, y.distance(0), NONE);
            due("digest() without a distance, for " + n, y.digest(), Scenes.digestOf(y, "02;"));
        }
    }

    private static void digestChangesNothing() {
        CHECKS.about("promise 26: it changes nothing");
        for (int n = 4; n <= 9; n++) {
            FlipPolygons x = Scenes.busy(n);
            long first = x.digest();
            due("digest() again", x.digest(), first);
            CHECKS.due("all that is seen", Scenes.deepLook(x), Scenes.deepLook(Scenes.busy(n)));
        }
    }
}
