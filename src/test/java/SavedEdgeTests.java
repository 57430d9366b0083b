import java.util.function.Supplier;

/** The boundary cases of the promises 14 to 16: snapshots, saved states, and what they keep. */
public final class SavedEdgeTests {
    private static final Checks CHECKS = new Checks();
    private static final int LEAST = Integer.MIN_VALUE;
    private static final int MOST = Integer.MAX_VALUE;
    private static final int[] NO_SNAPSHOT = {-1, 2, 3, LEAST, MOST};

    public static void main(String[] args) {
        takeInRange();
        takeOutOfRange();
        takeInPlaceOfTheOneBefore();
        takeIsNotUndoable();
        restoreInRange();
        restoreOutOfRange();
        restoreOfWhatWasNotTaken();
        restoreRefusedInOrder();
        snapshotKeeps();
        snapshotKeepsNoMore();
        snapshotIsApart();
        restoredStays();
        restoreIsUndoable();
        snapshotOfEachSize();
        undoOfNothing();
        undoDownToNothing();
        sixSavedStates();
        seventhSavedState();
        manySavedStates();
        roomBehindUndo();
        savedKeeps();
        savedKeepsNoMore();
        savedThoughNothingChanges();
        notSavedByOthers();
        notSavedByLooks();
        CHECKS.end();
    }

    private static void due(String call, long got, long want) {
        CHECKS.due(call, got, want);
    }

    private static FlipPolygons polygon(int n) {
        FlipPolygons x = new FlipPolygons();
        x.begin(n);
        return x;
    }

    private static int fanMask(int n, int corner) {
        return PlainModel.mask(n, PlainModel.fanOf(n, corner));
    }

    // ---- promise 14

    private static void takeInRange() {
        CHECKS.about("snapshots, promise 14: two, 0 and 1, at first none");
        for (int n = 4; n <= 9; n++) {
            for (int first = 0; first <= 1; first++) {
                FlipPolygons x = polygon(n);
                due("none", x.count(8), 0);
                due("take(" + first + ")", x.take(first), n);
                due("one", x.count(8), 1);
                due("take(" + (1 - first) + ")", x.take(1 - first), n);
                due("both", x.count(8), 2);
            }
        }
    }

    private static void takeOutOfRange() {
        CHECKS.about("promise 14: there is no such snapshot");
        for (int snapshot : NO_SNAPSHOT) {
            CHECKS.dueRefusal(() -> Scenes.busy(7), "take(" + snapshot + ")", Checks.INDEX,
                    x -> x.take(snapshot));
            CHECKS.dueRefusal(FlipPolygons::new, "take(" + snapshot + ")", Checks.INDEX,
                    x -> x.take(snapshot));
        }
    }

    private static void takeInPlaceOfTheOneBefore() {
        CHECKS.about("promise 14: in place of the one with its number, and of no other");
        for (int which = 0; which <= 1; which++) {
            FlipPolygons x = polygon(5);
            x.take(0);
            x.take(1);
            x.begin(8);
            due("take(" + which + ") again", x.take(which), 8);
            due("still two", x.count(8), 2);
            due("this one", x.restore(which), 8);
            due("the other one", x.restore(1 - which), 5);
        }
    }

    private static void takeIsNotUndoable() {
        CHECKS.about("promise 14: it saves no state, and no undo takes it back");
        FlipPolygons x = polygon(5);
        x.take(0);
        due("saved states", x.count(9), 1);
        due("undo()", x.undo(), 0);
        due("snapshots", x.count(8), 1);
        due("restore(0)", x.restore(0), 5);
    }

    // ---- promise 15

    private static void restoreInRange() {
        CHECKS.about("promise 15: 0 and 1");
        for (int which = 0; which <= 1; which++) {
            FlipPolygons x = polygon(9);
            x.take(which);
            x.begin(4);
            due("restore(" + which + ")", x.restore(which), 9);
            due("count(0)", x.count(0), 9);
        }
    }

    private static FlipPolygons bothTaken() {
        FlipPolygons x = Scenes.busy(7);
        x.take(0);
        return x;
    }

    private static void restoreOutOfRange() {
        CHECKS.about("promise 15: there is no such snapshot");
        for (int snapshot : NO_SNAPSHOT) {
            CHECKS.dueRefusal(SavedEdgeTests::bothTaken, "restore(" + snapshot + ")", Checks.INDEX,
                    x -> x.restore(snapshot));
        }
    }

    private static void restoreOfWhatWasNotTaken() {
        CHECKS.about("snapshots, promise 15: it was not taken");
        for (int n = 4; n <= 9; n++) {
            for (int taken = 0; taken <= 1; taken++) {
                int corners = n;
                int one = taken;
                CHECKS.dueRefusal(() -> polygon(corners), "restore(" + one + "), none taken",
                        Checks.STATE, x -> x.restore(one));
                CHECKS.dueRefusal(() -> {
                    FlipPolygons x = polygon(corners);
                    x.take(one);
                    return x;
                }, "restore, the other one taken", Checks.STATE, x -> x.restore(1 - one));
            }
        }
    }

    private static void restoreRefusedInOrder() {
        CHECKS.about("promise 15: IndexOutOfBoundsException before IllegalStateException");
        for (int snapshot : NO_SNAPSHOT) {
            CHECKS.dueRefusal(FlipPolygons::new, "restore(" + snapshot + "), none taken",
                    Checks.INDEX, x -> x.restore(snapshot));
        }
    }

    private static void snapshotKeeps() {
        CHECKS.about("snapshots: each keeps n, both triangulations and the locks");
        for (int n = 4; n <= 9; n++) {
            FlipPolygons x = polygon(n);
            x.fan(0, n - 1);
            x.fan(1, 2);
            x.lock(1, n - 1, true);
            int locks = x.count(7);
            x.take(0);
            x.begin(n == 9 ? 4 : n + 1);
            x.restore(0);
            due("n", x.count(0), n);
            due("present", x.triangulation(0, 0), fanMask(n, n - 1));
            due("goal", x.triangulation(1, 0), fanMask(n, 2));
            due("locks", x.count(7), locks);
            due("one of them", x.count(6), 1);
            x.lock(1, n - 1, false);
            x.restore(0);
            due("the lock is there again", x.count(7), locks);
            x.exchange();
            x.restore(0);
            due("present, behind exchange()", x.triangulation(0, 0), fanMask(n, n - 1));
        }
    }

    private static void snapshotKeepsNoMore() {
        CHECKS.about("snapshots: they keep no counted flips, no buffer, no saved states");
        FlipPolygons x = new FlipPolygons();
        x.flip(0, 0, 2);
        Scenes.type(x, "02");
        x.take(0);
        x.flip(0, 1, 3);
        x.flip(1, 0, 4);
        Scenes.type(x, ",1");
        x.restore(0);
        due("flips so far", x.count(5), 3);
        due("saved states", x.count(9), 4);
        due("digest()", x.digest(), Scenes.digestOf(x, "02,1"));
        due("the buffer's length", x.clearBuffer(), 4);
    }

    private static void snapshotIsApart() {
        CHECKS.about("snapshots: what is changed afterwards is not changed in them");
        FlipPolygons x = polygon(7);
        x.take(0);
        x.take(1);
        x.fan(0, 3);
        x.fan(1, 4);
        x.lock(0, 3, true);
        x.restore(0);
        x.flip(0, 0, 2);
        x.flip(1, 0, 5);
        x.lock(0, 3, true);
        for (int which = 0; which <= 1; which++) {
            x.restore(which);
            due("present of " + which, x.triangulation(0, 0), fanMask(7, 0));
            due("goal of " + which, x.triangulation(1, 0), fanMask(7, 0));
            due("locks of " + which, x.count(7), 0);
        }
    }

    private static void restoredStays() {
        CHECKS.about("promise 15: the snapshot stays, however often it is restored");
        FlipPolygons x = polygon(8);
        x.fan(0, 5);
        x.take(1);
        for (int time = 1; time <= 8; time++) {
            x.begin(4);
            due("restore(1)", x.restore(1), 8);
            due("present", x.triangulation(0, 0), fanMask(8, 5));
            due("snapshots", x.count(8), 1);
        }
    }

    private static void restoreIsUndoable() {
        CHECKS.about("promise 15: undoable, also if it changes nothing");
        FlipPolygons x = polygon(8);
        x.take(0);
        long before = x.digest();
        due("restore(0)", x.restore(0), 8);
        due("saved states", x.count(9), 2);
        x.begin(5);
        due("restore(0)", x.restore(0), 8);
        due("undo()", x.undo(), 3);
        due("n", x.count(0), 5);
        x.undo();
        due("undo()", x.undo(), 1);
        due("digest()", x.digest(), before);
        due("the snapshot stays", x.restore(0), 8);
    }

    /** The twin saves as many states, by calls that change nothing. */
    private static void snapshotOfEachSize() {
        CHECKS.about("promises 14 and 15: from each n to each n");
        for (int taken = 4; taken <= 9; taken++) {
            for (int now = 4; now <= 9; now++) {
                FlipPolygons x = Scenes.busy(taken);
                due("take(0)", x.take(0), taken);
                x.begin(now);
                due("restore(0)", x.restore(0), taken);
                FlipPolygons twin = Scenes.busy(taken);
                twin.take(0);
                twin.turn(1, 0);
                twin.turn(1, 0);
                due("digest() of " + taken + " over " + now, x.digest(), twin.digest());
            }
        }
    }

    // ---- promise 16

    private static void undoOfNothing() {
        CHECKS.about("promise 16: there is no saved state");
        CHECKS.dueRefusal(FlipPolygons::new, "undo()", Checks.STATE, FlipPolygons::undo);
        CHECKS.dueRefusal(() -> {
            FlipPolygons x = new FlipPolygons();
            x.take(0);
            Scenes.type(x, "02");
            x.clearBuffer();
            Scenes.type(x, "02,");
            return x;
        }, "undo(), behind what is not undoable", Checks.STATE, FlipPolygons::undo);
    }

    private static void undoDownToNothing() {
        CHECKS.about("promise 16: how many saved states are left, down to 0");
        for (int saved = 1; saved <= 6; saved++) {
            FlipPolygons x = new FlipPolygons();
            long before = x.digest();
            for (int time = 0; time < saved; time++) {
                x.fan(0, time % 2 + 1);
            }
            for (int left = saved - 1; left >= 0; left--) {
                due("undo() of " + saved, x.undo(), left);
            }
            due("digest()", x.digest(), before);
            CHECKS.due("undo(), nothing left", Checks.outcome(x::undo), Checks.STATE);
            due("digest() behind it", x.digest(), before);
        }
    }

    /** The hexagon's fan of 0, then those of 1, 2 and on, around and around. */
    private static FlipPolygons afterFans(int fans) {
        FlipPolygons x = new FlipPolygons();
        for (int fan = 1; fan <= fans; fan++) {
            x.fan(0, fan % 6);
        }
        return x;
    }

    private static void sixSavedStates() {
        CHECKS.about("undo: at most 6 states are saved: none of six is dropped");
        FlipPolygons x = afterFans(6);
        due("count(9)", x.count(9), 6);
        for (int left = 5; left >= 0; left--) {
            due("undo()", x.undo(), left);
            due("present", x.triangulation(0, 0), fanMask(6, left));
        }
    }

    private static void seventhSavedState() {
        CHECKS.about("undo: the seventh state drops the oldest one, and no other");
        FlipPolygons x = afterFans(7);
        due("count(9)", x.count(9), 6);
        for (int left = 5; left >= 0; left--) {
            due("undo()", x.undo(), left);
            due("present", x.triangulation(0, 0), fanMask(6, (left + 1) % 6));
        }
        CHECKS.due("undo(), a seventh time", Checks.outcome(x::undo), Checks.STATE);
        due("it is still the first fan", x.triangulation(0, 0), fanMask(6, 1));
    }

    private static void manySavedStates() {
        CHECKS.about("undo: of many states the latest six are left");
        for (int fans = 8; fans <= 30; fans++) {
            FlipPolygons x = afterFans(fans);
            due("count(9)", x.count(9), 6);
            for (int back = 1; back <= 6; back++) {
                due("undo() of " + fans, x.undo(), 6 - back);
                due("present", x.triangulation(0, 0), fanMask(6, (fans - back) % 6));
            }
            CHECKS.due("undo(), a seventh time", Checks.outcome(x::undo), Checks.STATE);
        }
    }

    private static void roomBehindUndo() {
        CHECKS.about("undo: an undo makes room for one state again");
        FlipPolygons x = afterFans(6);
        due("undo()", x.undo(), 5);
        x.fan(0, 2);
        due("count(9)", x.count(9), 6);
        x.fan(0, 3);
        due("count(9)", x.count(9), 6);
        int[] want = {2, 5, 4, 3, 2, 1};
        for (int back = 0; back < want.length; back++) {
            due("undo()", x.undo(), 5 - back);
            due("present", x.triangulation(0, 0), fanMask(6, want[back]));
        }
    }

    private static void savedKeeps() {
        CHECKS.about("undo: all is saved: n, both triangulations, the locks, what is counted");
        for (int n = 4; n <= 9; n++) {
            FlipPolygons x = Scenes.busy(n);
            int present = x.triangulation(0, 0);
            int goal = x.triangulation(1, 0);
            x.begin(n == 9 ? 4 : 9);
            x.undo();
            due("n", x.count(0), n);
            due("present", x.triangulation(0, 0), present);
            due("goal", x.triangulation(1, 0), goal);
            due("locks", x.count(7), 1 << (n - 3));
            due("flips so far", x.count(5), 1);
            x.undo();
            due("locks before the lock", x.count(7), 0);
            x.undo();
            due("flips before the flip", x.count(5), 0);
            due("present before the flip", x.triangulation(0, 0), fanMask(n, 0));
            x.undo();
            due("goal before the fan", x.triangulation(1, 0), fanMask(n, 0));
            x.undo();
            due("n before begin", x.count(0), 6);
        }
    }

    private static void savedKeepsNoMore() {
        CHECKS.about("undo: but the buffer, the snapshots and the saved states");
        FlipPolygons x = new FlipPolygons();
        Scenes.type(x, "02");
        x.flip(0, 0, 2);
        Scenes.type(x, ",");
        x.take(1);
        x.begin(9);
        x.take(0);
        Scenes.type(x, "!");
        due("undo()", x.undo(), 1);
        due("undo()", x.undo(), 0);
        due("digest()", x.digest(), Scenes.digestOf(x, "02,!"));
        due("snapshots", x.count(8), 2);
        due("restore(0)", x.restore(0), 9);
        due("restore(1)", x.restore(1), 6);
        due("of the time when it was taken", x.triangulation(0, 0), 14);
    }

    private static String stateOf(FlipPolygons x) {
        return x.count(0) + " " + x.triangulation(0, 0) + " " + x.triangulation(1, 0) + " "
                + x.count(7) + " " + x.count(5);
    }

    private static void dueSaved(Supplier<FlipPolygons> scene, String name, Checks.CallOf call) {
        FlipPolygons x = scene.get();
        long digest = x.digest();
        String state = stateOf(x);
        int saved = x.count(9);
        call.answer(x);
        CHECKS.due("all but the saved states, behind " + name, stateOf(x), state);
        due("saved states behind " + name, x.count(9), saved + 1);
        due("undo() of " + name, x.undo(), saved);
        due("digest() behind the undo of " + name, x.digest(), digest);
    }

    /** A zigzag, which half a turn turns into itself. */
    private static FlipPolygons zigzag() {
        FlipPolygons x = Scenes.polygon(6, "14,13,04", "04,13,14");
        x.lock(1, 4, true);
        x.take(0);
        Scenes.type(x, "13,14,04");
        return x;
    }

    /** A pentagon's fan of the corner in the middle, which is its own mirror image. */
    private static FlipPolygons mirrorImage() {
        return Scenes.polygon(5, "02,24", "02,24");
    }

    private static void savedThoughNothingChanges() {
        CHECKS.about("undo, promises 2 to 9, 13, 15: saved also if it changes nothing");
        dueSaved(FlipPolygons::new, "begin(6)", x -> x.begin(6));
        dueSaved(FlipPolygons::new, "fan(0, 0)", x -> x.fan(0, 0));
        dueSaved(FlipPolygons::new, "fan(1, 0)", x -> x.fan(1, 0));
        dueSaved(FlipPolygons::new, "exchange()", FlipPolygons::exchange);
        dueSaved(SavedEdgeTests::zigzag, "turn(0, 0)", x -> x.turn(0, 0));
        dueSaved(SavedEdgeTests::zigzag, "turn(1, 6)", x -> x.turn(1, 6));
        dueSaved(SavedEdgeTests::zigzag, "turn(0, 3), into itself", x -> x.turn(0, 3));
        dueSaved(SavedEdgeTests::zigzag, "lock(1, 4, true), locked", x -> x.lock(1, 4, true));
        dueSaved(SavedEdgeTests::zigzag, "lock(1, 3, false), not locked", x -> x.lock(1, 3, false));
        dueSaved(SavedEdgeTests::zigzag, "walk(1), at the goal", x -> x.walk(1));
        dueSaved(SavedEdgeTests::zigzag, "restore(0), which it is", x -> x.restore(0));
        dueSaved(SavedEdgeTests::mirrorImage, "mirror(0)", x -> x.mirror(0));
        dueSaved(SavedEdgeTests::mirrorImage, "mirror(1)", x -> x.mirror(1));
        FlipPolygons read = zigzag();
        String state = stateOf(read);
        int saved = read.count(9);
        read.read(1);
        CHECKS.due("all but the saved states, behind read(1)", stateOf(read), state);
        due("saved states behind read(1)", read.count(9), saved + 1);
    }

    private static void notSavedByOthers() {
        CHECKS.about("undo, promises 10, 11, 14, 16: what is not undoable saves no state");
        FlipPolygons x = Scenes.busy(6);
        Checks.CallOf[] calls = {y -> y.append(48), y -> y.clearBuffer(), y -> y.take(0),
            y -> y.take(1)};
        for (Checks.CallOf call : calls) {
            call.answer(x);
            due("saved states", x.count(9), 4);
        }
        due("undo()", x.undo(), 3);
        due("saved states", x.count(9), 3);
    }

    private static void notSavedByLooks() {
        CHECKS.about("promises 12 and 17 to 26: looks change nothing, and save no state");
        for (int n = 4; n <= 9; n++) {
            FlipPolygons x = Scenes.busy(n);
            x.firstError();
            Scenes.digestOf(x, "02;");
            x.number(0, 2);
            x.digest();
            CHECKS.due("all that is seen, for " + n, Scenes.deepLook(x), Scenes.deepLook(Scenes.busy(n)));
        }
    }
}
