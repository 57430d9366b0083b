/**
 * One method for each promise, with answers found by hand. In the hexagon the diagonals 02, 03, 04,
 * 13, 14, 15, 24, 25, 35 have the numbers 0 to 8, and so the masks 1, 2, 4, .. 256.
 */
public final class PromiseTests {
    private static final int NONE = FlipPolygons.NONE;
    private static final Checks CHECKS = new Checks();

    public static void main(String[] args) {
        newObject();
        begin();
        flip();
        fan();
        turn();
        mirror();
        exchange();
        lock();
        walk();
        append();
        clearBuffer();
        firstError();
        firstErrorOfOthers();
        read();
        readWrong();
        take();
        restore();
        undo();
        undoOfEach();
        number();
        triangulation();
        degree();
        other();
        whyNot();
        distance();
        distanceWithLocks();
        distanceByParts();
        ifFlipped();
        count();
        countsOfAllPolygons();
        farShare();
        digest();
        allTriangulations();
        CHECKS.end();
    }

    private static void due(String call, long got, long want) {
        CHECKS.due(call, got, want);
    }

    private static void newObject() {
        CHECKS.about("promise 1");
        FlipPolygons x = new FlipPolygons();
        due("n", x.count(0), 6);
        due("present", x.triangulation(0, 0), 7);
        due("goal", x.triangulation(1, 0), 7);
        due("flips", x.count(5), 0);
        due("locks", x.count(6), 0);
        due("mask of the locks", x.count(7), 0);
        due("snapshots", x.count(8), 0);
        due("saved states", x.count(9), 0);
        due("the buffer's length", x.clearBuffer(), 0);
        due("NONE", FlipPolygons.NONE, -1);
    }

    private static void begin() {
        CHECKS.about("promise 2");
        FlipPolygons x = new FlipPolygons();
        x.flip(0, 0, 2);
        x.flip(1, 0, 4);
        x.lock(0, 3, true);
        Scenes.type(x, "02");
        due("begin(5)", x.begin(5), 6);
        due("n", x.count(0), 5);
        due("present", x.triangulation(0, 0), 3);
        due("goal", x.triangulation(1, 0), 3);
        due("locks", x.count(7), 0);
        due("flips", x.count(5), 2);
        due("saved states", x.count(9), 4);
        due("begin(9)", x.begin(9), 5);
        due("begin(9)", x.begin(9), 9);
        due("begin(4)", x.begin(4), 9);
        due("present", x.triangulation(0, 0), 1);
        due("the buffer stays", x.clearBuffer(), 2);
        for (int n : new int[] {3, 10, 0, -4, Integer.MIN_VALUE, Integer.MAX_VALUE}) {
            CHECKS.dueThrow(x, "begin(" + n + ")", Checks.ARGUMENT, () -> x.begin(n));
        }
    }

    private static void flip() {
        CHECKS.about("promise 3");
        FlipPolygons x = new FlipPolygons();
        due("flip(0, 0, 3)", x.flip(0, 0, 3), 6);
        due("present", x.triangulation(0, 0), 1 + 4 + 64);
        due("goal", x.triangulation(1, 0), 7);
        due("flip(1, 0, 4)", x.flip(1, 0, 4), 8);
        due("present", x.triangulation(0, 0), 1 + 4 + 64);
        due("goal", x.triangulation(1, 0), 1 + 2 + 256);
        due("flips", x.count(5), 2);
        x.lock(0, 2, true);
        due("flip(1, 0, 2), of the goal, locked in the present one", x.flip(1, 0, 2), 3);
        due("saved states", x.count(9), 4);
        CHECKS.dueThrow(x, "flip(0, 0, 2), locked", Checks.STATE, () -> x.flip(0, 0, 2));
        CHECKS.dueThrow(x, "flip(0, 0, 3), not there", Checks.STATE, () -> x.flip(0, 0, 3));
        CHECKS.dueThrow(x, "flip(1, 0, 2), not there", Checks.STATE, () -> x.flip(1, 0, 2));
        CHECKS.dueThrow(x, "flip(2, 0, 2)", Checks.INDEX, () -> x.flip(2, 0, 2));
        CHECKS.dueThrow(x, "flip(-1, 0, 3)", Checks.INDEX, () -> x.flip(-1, 0, 3));
        noDiagonals(x, "flip", (a, b) -> x.flip(0, a, b));
        x.lock(0, 2, false);
        due("flip(0, 0, 2), unlocked", x.flip(0, 0, 2), 4);
    }

    /** A call with the corners of a diagonal. */
    private interface OfCorners {
        long answer(int a, int b);
    }

    /** The hexagon's corners that are no diagonal: neighbors, turned around, out of range. */
    private static void noDiagonals(FlipPolygons x, String name, OfCorners call) {
        int[][] wrong = {{0, 1}, {4, 5}, {0, 5}, {2, 0}, {5, 3}, {5, 0}, {3, 3}, {0, 6}, {3, 6},
            {-1, 3}, {-2, -5}, {6, 8}, {Integer.MIN_VALUE, 2}, {0, Integer.MAX_VALUE}};
        for (int[] at : wrong) {
            CHECKS.dueThrow(x, name + " with " + at[0] + ", " + at[1], Checks.INDEX,
                    () -> call.answer(at[0], at[1]));
        }
    }

    private static void fan() {
        CHECKS.about("promise 4");
        FlipPolygons x = new FlipPolygons();
        x.lock(0, 2, true);
        due("fan(1, 2)", x.fan(1, 2), 1);
        due("goal", x.triangulation(1, 0), 1 + 64 + 128);
        due("the locks stay for the goal", x.count(7), 1);
        due("fan(0, 0)", x.fan(0, 0), 3);
        due("present", x.triangulation(0, 0), 7);
        due("the locks are gone", x.count(7), 0);
        due("fan(0, 5)", x.fan(0, 5), 0);
        due("present", x.triangulation(0, 0), 32 + 128 + 256);
        due("flips", x.count(5), 0);
        due("saved states", x.count(9), 4);
        due("fan(1, 2), which the goal is", x.fan(1, 2), 3);
        due("fan(0, 2), which the present one is not", x.fan(0, 2), 1);
        CHECKS.dueThrow(x, "fan(2, 0)", Checks.INDEX, () -> x.fan(2, 0));
        CHECKS.dueThrow(x, "fan(-1, 0)", Checks.INDEX, () -> x.fan(-1, 0));
        CHECKS.dueThrow(x, "fan(0, 6)", Checks.INDEX, () -> x.fan(0, 6));
        CHECKS.dueThrow(x, "fan(1, -1)", Checks.INDEX, () -> x.fan(1, -1));
    }

    private static void turn() {
        CHECKS.about("promise 5");
        FlipPolygons x = new FlipPolygons();
        x.lock(0, 4, true);
        due("turn(1, 1)", x.turn(1, 1), 8 + 16 + 32);
        due("the locks stay for the goal", x.count(7), 4);
        due("turn(0, 2): 02, 03, 04 become 24, 25, 02", x.turn(0, 2), 1 + 64 + 128);
        due("the locks turn: 04 becomes 02", x.count(7), 1);
        due("turn(0, 6)", x.turn(0, 6), 1 + 64 + 128);
        due("turn(0, 8)", x.turn(0, 8), 4 + 16 + 64);
        due("turn(0, 0)", x.turn(0, 0), 4 + 16 + 64);
        due("goal", x.triangulation(1, 0), 8 + 16 + 32);
        due("saved states", x.count(9), 6);
        CHECKS.dueThrow(x, "turn(0, 9)", Checks.ARGUMENT, () -> x.turn(0, 9));
        CHECKS.dueThrow(x, "turn(1, -1)", Checks.ARGUMENT, () -> x.turn(1, -1));
        CHECKS.dueThrow(x, "turn(2, 0)", Checks.INDEX, () -> x.turn(2, 0));
        CHECKS.dueThrow(x, "turn(-1, 9)", Checks.INDEX, () -> x.turn(-1, 9));
    }

    private static void mirror() {
        CHECKS.about("promise 6");
        FlipPolygons x = new FlipPolygons();
        x.lock(0, 2, true);
        due("mirror(1): 02, 03, 04 become 35, 25, 15", x.mirror(1), 32 + 128 + 256);
        due("the locks stay for the goal", x.count(7), 1);
        due("present", x.triangulation(0, 0), 7);
        due("mirror(0)", x.mirror(0), 32 + 128 + 256);
        due("the locks are mirrored", x.count(7), 256);
        due("mirror(0)", x.mirror(0), 7);
        due("the locks are mirrored back", x.count(7), 1);
        due("saved states", x.count(9), 4);
        CHECKS.dueThrow(x, "mirror(2)", Checks.INDEX, () -> x.mirror(2));
        CHECKS.dueThrow(x, "mirror(-1)", Checks.INDEX, () -> x.mirror(-1));
    }

    private static void exchange() {
        CHECKS.about("promise 7");
        FlipPolygons x = new FlipPolygons();
        x.fan(1, 1);
        x.lock(0, 3, true);
        due("exchange()", x.exchange(), 8 + 16 + 32);
        due("present", x.triangulation(0, 0), 8 + 16 + 32);
        due("goal", x.triangulation(1, 0), 7);
        due("locks", x.count(6), 0);
        due("exchange()", x.exchange(), 7);
        due("saved states", x.count(9), 4);
    }

    private static void lock() {
        CHECKS.about("promise 8");
        FlipPolygons x = new FlipPolygons();
        due("lock(0, 3, true)", x.lock(0, 3, true), 1);
        due("lock(0, 4, true)", x.lock(0, 4, true), 2);
        due("lock(0, 4, true) again", x.lock(0, 4, true), 2);
        due("mask of the locks", x.count(7), 6);
        due("lock(0, 3, false)", x.lock(0, 3, false), 1);
        due("lock(0, 2, false), not locked", x.lock(0, 2, false), 1);
        due("mask of the locks", x.count(7), 4);
        due("saved states", x.count(9), 5);
        x.fan(1, 1);
        CHECKS.dueThrow(x, "lock(1, 3, true)", Checks.STATE, () -> x.lock(1, 3, true));
        CHECKS.dueThrow(x, "lock(2, 5, false)", Checks.STATE, () -> x.lock(2, 5, false));
        noDiagonals(x, "lock", (a, b) -> x.lock(a, b, true));
    }

    private static void walk() {
        CHECKS.about("promise 9");
        FlipPolygons x = new FlipPolygons();
        due("walk(1) at the goal", x.walk(1), 0);
        due("saved states", x.count(9), 1);
        x.fan(1, 2);
        due("distance(0)", x.distance(0), 2);
        due("walk(1): 03 to 24, as 04 comes no nearer", x.walk(1), 1);
        due("present", x.triangulation(0, 0), 1 + 4 + 64);
        due("walk(20)", x.walk(20), 1);
        due("present", x.triangulation(0, 0), x.triangulation(1, 0));
        due("flips", x.count(5), 2);
        due("walk(20) at the goal", x.walk(20), 0);
        due("flips", x.count(5), 2);
        x.fan(0, 0);
        x.lock(0, 2, true);
        due("walk(20), 02 locked, which the goal has", x.walk(20), 2);
        due("the lock stays", x.count(7), 1);
        due("undo()", x.undo(), 5);
        due("the walk is undone as one call", x.triangulation(0, 0), 7);
        due("the flips too", x.count(5), 2);
        x.lock(0, 3, true);
        CHECKS.dueThrow(x, "walk(3), 03 locked", Checks.STATE, () -> x.walk(3));
        CHECKS.dueThrow(x, "walk(0)", Checks.ARGUMENT, () -> x.walk(0));
        CHECKS.dueThrow(x, "walk(21)", Checks.ARGUMENT, () -> x.walk(21));
        CHECKS.dueThrow(x, "walk(-1)", Checks.ARGUMENT, () -> x.walk(-1));
    }

    private static void append() {
        CHECKS.about("promise 10");
        FlipPolygons x = new FlipPolygons();
        due("append(33)", x.append(33), 1);
        due("append(126)", x.append(126), 2);
        due("saved states", x.count(9), 0);
        for (int code : new int[] {32, 127, 0, -48, 304, Integer.MAX_VALUE}) {
            CHECKS.dueThrow(x, "append(" + code + ")", Checks.ARGUMENT, () -> x.append(code));
        }
        for (int length = 3; length <= 60; length++) {
            due("append(48)", x.append(48), length);
        }
        CHECKS.dueThrow(x, "append(48) when full", Checks.STATE, () -> x.append(48));
        CHECKS.dueThrow(x, "append(32) when full", Checks.ARGUMENT, () -> x.append(32));
        due("clearBuffer()", x.clearBuffer(), 60);
        due("append(48)", x.append(48), 1);
    }

    private static void clearBuffer() {
        CHECKS.about("promise 11");
        FlipPolygons x = new FlipPolygons();
        due("clearBuffer() when empty", x.clearBuffer(), 0);
        Scenes.type(x, "02,!");
        due("clearBuffer()", x.clearBuffer(), 4);
        due("clearBuffer() again", x.clearBuffer(), 0);
        due("saved states", x.count(9), 0);
    }

    private static void dueError(int n, String text, int want) {
        FlipPolygons x = new FlipPolygons();
        x.begin(n);
        Scenes.type(x, text);
        due("firstError() of " + text + " for " + n, x.firstError(), want);
        due("firstError() again", x.firstError(), want);
        due("the length stays", x.clearBuffer(), text.length());
        due("saved states", x.count(9), 1);
    }

    private static void firstError() {
        CHECKS.about("promise 12");
        dueError(6, "", 0);
        dueError(6, "3", 1);
        dueError(6, "4", 0);
        dueError(6, "5", 0);
        dueError(6, "a", 0);
        dueError(6, ",", 0);
        dueError(6, "/", 0);
        dueError(6, "01", 1);
        dueError(6, "05", 1);
        dueError(6, "06", 1);
        dueError(6, "20", 1);
        dueError(6, "22", 1);
        dueError(6, "15", 2);
        dueError(6, "36", 1);
        dueError(6, "35", 2);
        dueError(6, "02,", 3);
        dueError(6, "02;03", 2);
        dueError(6, "0203", 2);
        dueError(6, "02,,", 3);
        dueError(6, "02,03,04", 8);
        dueError(6, "02,03,04,", 8);
        dueError(6, "02,03,045", 8);
        dueError(6, "02,02,13", 8);
        dueError(6, "02,13,4~~", 6);
    }

    private static void firstErrorOfOthers() {
        CHECKS.about("promise 12");
        dueError(4, "02", 2);
        dueError(4, "13", 2);
        dueError(4, "03", 1);
        dueError(4, "2", 0);
        dueError(4, "02,", 2);
        dueError(9, "68,08", 4);
        dueError(9, "68,18,07,57,13,46", 17);
        dueError(9, "68,18,07,57,13,46,", 17);
        dueError(9, "7", 0);
        dueError(9, "69", 1);
        FlipPolygons x = new FlipPolygons();
        Scenes.type(x, "02,26");
        due("firstError() for 6", x.firstError(), 4);
        x.begin(7);
        due("firstError() for 7", x.firstError(), 5);
        x.begin(4);
        due("firstError() for 4", x.firstError(), 2);
        x.clearBuffer();
        Scenes.type(x, "!".repeat(60));
        due("firstError() of 60 characters", x.firstError(), 0);
    }

    private static void read() {
        CHECKS.about("promise 13");
        FlipPolygons x = new FlipPolygons();
        x.lock(0, 2, true);
        Scenes.type(x, "24,02,25");
        due("read(1)", x.read(1), 1 + 64 + 128);
        due("goal", x.triangulation(1, 0), 1 + 64 + 128);
        due("present", x.triangulation(0, 0), 7);
        due("the locks stay for the goal", x.count(7), 1);
        due("the buffer is cleared", x.clearBuffer(), 0);
        Scenes.type(x, "02,24,04");
        due("read(0)", x.read(0), 1 + 4 + 64);
        due("the locks are gone", x.count(7), 0);
        due("saved states", x.count(9), 3);
        due("undo()", x.undo(), 2);
        due("present", x.triangulation(0, 0), 7);
        due("the lock is back", x.count(7), 1);
        due("the buffer is not", x.clearBuffer(), 0);
        x.begin(4);
        Scenes.type(x, "13");
        due("read(0) for 4", x.read(0), 2);
        x.begin(9);
        Scenes.type(x, "13,35,57,17,37,18");
        due("read(1) for 9", x.read(1), 17435712);
    }

    private static void dueRead(int n, String text, String exception) {
        FlipPolygons x = new FlipPolygons();
        x.begin(n);
        Scenes.type(x, text);
        CHECKS.dueThrow(x, "read(0) of " + text, exception, () -> x.read(0));
        CHECKS.dueThrow(x, "read(1) of " + text, exception, () -> x.read(1));
        CHECKS.dueThrow(x, "read(2) of " + text, Checks.INDEX, () -> x.read(2));
        CHECKS.dueThrow(x, "read(-1) of " + text, Checks.INDEX, () -> x.read(-1));
        due("the buffer stays", x.clearBuffer(), text.length());
    }

    private static void readWrong() {
        CHECKS.about("promise 13");
        dueRead(6, "", Checks.ARGUMENT);
        dueRead(6, "02", Checks.ARGUMENT);
        dueRead(6, "02,03", Checks.ARGUMENT);
        dueRead(6, "02,03,", Checks.ARGUMENT);
        dueRead(6, "02,03,0", Checks.ARGUMENT);
        dueRead(6, "02,03,05", Checks.ARGUMENT);
        dueRead(6, "02,13,4", Checks.ARGUMENT);
        dueRead(6, "02,03,04,", Checks.ARGUMENT);
        dueRead(6, "02,03,04,05", Checks.ARGUMENT);
        dueRead(6, "02.03,04", Checks.ARGUMENT);
        dueRead(6, "02,03,40", Checks.ARGUMENT);
        dueRead(6, "02,13,99", Checks.ARGUMENT);
        dueRead(6, "02,03,02", Checks.STATE);
        dueRead(6, "02,13,04", Checks.STATE);
        dueRead(6, "13,35,02", Checks.STATE);
        dueRead(6, "03,14,25", Checks.STATE);
        dueRead(5, "13,24", Checks.STATE);
        dueRead(5, "02,02", Checks.STATE);
        dueRead(5, "02,03,04", Checks.ARGUMENT);
        dueRead(4, "03", Checks.ARGUMENT);
    }

    private static void take() {
        CHECKS.about("promise 14");
        FlipPolygons x = new FlipPolygons();
        due("take(1)", x.take(1), 6);
        due("snapshots", x.count(8), 1);
        due("saved states", x.count(9), 0);
        x.begin(5);
        due("take(1), in place of the one before", x.take(1), 5);
        due("snapshots", x.count(8), 1);
        due("take(0)", x.take(0), 5);
        due("snapshots", x.count(8), 2);
        x.begin(8);
        due("restore(1)", x.restore(1), 5);
        CHECKS.dueThrow(x, "take(2)", Checks.INDEX, () -> x.take(2));
        CHECKS.dueThrow(x, "take(-1)", Checks.INDEX, () -> x.take(-1));
    }

    private static void restore() {
        CHECKS.about("promise 15");
        FlipPolygons x = new FlipPolygons();
        x.flip(0, 0, 3);
        x.fan(1, 3);
        x.lock(0, 4, true);
        x.take(1);
        CHECKS.dueThrow(x, "restore(0), not taken", Checks.STATE, () -> x.restore(0));
        CHECKS.dueThrow(x, "restore(2)", Checks.INDEX, () -> x.restore(2));
        CHECKS.dueThrow(x, "restore(-1)", Checks.INDEX, () -> x.restore(-1));
        x.begin(9);
        x.flip(0, 0, 2);
        Scenes.type(x, "02");
        due("restore(1)", x.restore(1), 6);
        due("n", x.count(0), 6);
        due("present", x.triangulation(0, 0), 1 + 4 + 64);
        due("goal", x.triangulation(1, 0), 2 + 8 + 256);
        due("locks", x.count(7), 4);
        due("what is counted so far stays", x.count(5), 2);
        due("saved states", x.count(9), 6);
        due("it stays", x.count(8), 1);
        x.fan(0, 1);
        due("restore(1) again", x.restore(1), 6);
        due("present", x.triangulation(0, 0), 1 + 4 + 64);
        due("undo()", x.undo(), 5);
        due("present", x.triangulation(0, 0), 8 + 16 + 32);
        due("the snapshot is still there", x.count(8), 1);
        due("the buffer stays", x.clearBuffer(), 2);
    }

    private static void undo() {
        CHECKS.about("promise 16");
        FlipPolygons x = new FlipPolygons();
        CHECKS.dueThrow(x, "undo() of nothing", Checks.STATE, x::undo);
        x.flip(0, 0, 2);
        x.flip(1, 0, 4);
        Scenes.type(x, "0");
        x.take(0);
        due("undo()", x.undo(), 1);
        due("goal", x.triangulation(1, 0), 7);
        due("flips", x.count(5), 1);
        due("undo()", x.undo(), 0);
        due("present", x.triangulation(0, 0), 7);
        due("flips", x.count(5), 0);
        due("the snapshot stays", x.count(8), 1);
        due("the buffer stays", x.clearBuffer(), 1);
        CHECKS.dueThrow(x, "undo() of nothing more", Checks.STATE, x::undo);
        for (int corner = 0; corner < 6; corner++) {
            x.fan(0, corner);
            due("saved states", x.count(9), corner + 1);
        }
        x.fan(0, 0);
        x.fan(0, 2);
        due("at most 6 states", x.count(9), 6);
        for (int left = 5; left >= 0; left--) {
            due("undo()", x.undo(), left);
        }
        due("the oldest two were dropped", x.triangulation(0, 0), 8 + 16 + 32);
        CHECKS.dueThrow(x, "undo() of nothing", Checks.STATE, x::undo);
    }

    /** Each undoable call saves one state, also if it changes nothing; its undo brings all back. */
    private static void undoOfEach() {
        CHECKS.about("promise 16");
        FlipPolygons x = Scenes.polygon(7, "02,24,46,04", "02,03,04,05");
        x.take(0);
        x.flip(0, 0, 2);
        x.lock(0, 4, true);
        x.undo();
        x.lock(0, 4, true);
        Checks.Call[] calls = {() -> x.begin(8), () -> x.flip(1, 0, 3), () -> x.fan(0, 2),
            () -> x.fan(1, 0), () -> x.turn(0, 3), () -> x.turn(1, 0), () -> x.mirror(0),
            () -> x.mirror(1), x::exchange, () -> x.lock(0, 4, false), () -> x.lock(0, 4, true),
            () -> x.walk(2), () -> x.restore(0)};
        while (x.count(9) > 0) {
            x.undo();
        }
        for (Checks.Call call : calls) {
            long before = x.digest();
            call.answer();
            due("saved states", x.count(9), 1);
            due("undo()", x.undo(), 0);
            due("digest() after the undo", x.digest(), before);
        }
    }

    private static void number() {
        CHECKS.about("promise 17");
        FlipPolygons x = new FlipPolygons();
        for (int n = 4; n <= 9; n++) {
            x.begin(n);
            int number = 0;
            for (String diagonal : PlainModel.diagonals(n)) {
                due("number of " + diagonal + " for " + n,
                        x.number(diagonal.charAt(0) - '0', diagonal.charAt(1) - '0'), number);
                number++;
            }
        }
        x.begin(6);
        due("number(0, 2)", x.number(0, 2), 0);
        due("number(1, 5)", x.number(1, 5), 5);
        due("number(3, 5)", x.number(3, 5), 8);
        noDiagonals(x, "number", (a, b) -> x.number(a, b));
    }

    private static void dueNumbers(FlipPolygons x, int which, int... want) {
        for (int what = 0; what < want.length; what++) {
            due("triangulation(" + which + ", " + what + ")", x.triangulation(which, what), want[what]);
        }
    }

    private static void triangulation() {
        CHECKS.about("promise 18");
        FlipPolygons x = Scenes.polygon(6, "24,04,02", "35,03,02");
        // a triangle: three turns and three mirrorings keep it; its turn by 1 is 13, 35, 15
        dueNumbers(x, 0, 69, 69, 6, 3, 2);
        // a zigzag: it is itself after half a turn; only mirrored it becomes 03, 04, 13
        due("the goal's mask", x.triangulation(1, 0), 1 + 2 + 256);
        due("the goal's code", x.triangulation(1, 1), 2 + 4 + 8);
        due("the goal's symmetries", x.triangulation(1, 2), 2);
        due("the goal's ears", x.triangulation(1, 3), 2);
        due("the goal's greatest degree", x.triangulation(1, 4), 2);
        x.fan(0, 3);
        dueNumbers(x, 0, 2 + 8 + 256, 7, 2, 2, 3);
        FlipPolygons square = Scenes.polygon(4, "13", "02");
        dueNumbers(square, 0, 2, 1, 4, 2, 1, 1, 1);
        dueNumbers(square, 1, 1, 1, 4, 2, 1, 1, 2);
        FlipPolygons pentagon = Scenes.polygon(5, "02,03", "13,14");
        // of the ring 02,03 - 03,13 - 13,14 - 14,24 - 02,24 two are two flips away
        dueNumbers(pentagon, 0, 3, 3, 2, 2, 2, 2, 12);
        square.lock(1, 3, true);
        due("the eccentricity is free", square.triangulation(0, 5), 1);
        CHECKS.dueThrow(x, "triangulation(2, 0)", Checks.INDEX, () -> x.triangulation(2, 0));
        CHECKS.dueThrow(x, "triangulation(-1, 7)", Checks.INDEX, () -> x.triangulation(-1, 7));
        CHECKS.dueThrow(x, "triangulation(0, 7)", Checks.ARGUMENT, () -> x.triangulation(0, 7));
        CHECKS.dueThrow(x, "triangulation(1, -1)", Checks.ARGUMENT, () -> x.triangulation(1, -1));
    }

    private static void degree() {
        CHECKS.about("promise 19");
        FlipPolygons x = Scenes.polygon(6, "02,03,35", "02,24,04");
        int[] present = {2, 0, 1, 2, 0, 1};
        for (int corner = 0; corner < 6; corner++) {
            due("degree(0, " + corner + ")", x.degree(0, corner), present[corner]);
            due("degree(1, " + corner + ")", x.degree(1, corner), corner % 2 == 0 ? 2 : 0);
        }
        CHECKS.dueThrow(x, "degree(2, 0)", Checks.INDEX, () -> x.degree(2, 0));
        CHECKS.dueThrow(x, "degree(-1, 0)", Checks.INDEX, () -> x.degree(-1, 0));
        CHECKS.dueThrow(x, "degree(0, 6)", Checks.INDEX, () -> x.degree(0, 6));
        CHECKS.dueThrow(x, "degree(1, -1)", Checks.INDEX, () -> x.degree(1, -1));
    }

    private static void other() {
        CHECKS.about("promise 20");
        FlipPolygons x = Scenes.polygon(6, "02,03,04", "13,14,15");
        x.lock(0, 2, true);
        due("other(0, 0, 2), locked", x.other(0, 0, 2), 3);
        due("other(0, 0, 3)", x.other(0, 0, 3), 6);
        due("other(0, 0, 4)", x.other(0, 0, 4), 8);
        due("other(0, 1, 3)", x.other(0, 1, 3), NONE);
        due("other(1, 0, 2)", x.other(1, 0, 2), NONE);
        due("other(1, 1, 5)", x.other(1, 1, 5), 2);
        due("present", x.triangulation(0, 0), 7);
        due("flips", x.count(5), 0);
        CHECKS.dueThrow(x, "other(2, 0, 2)", Checks.INDEX, () -> x.other(2, 0, 2));
        CHECKS.dueThrow(x, "other(-1, 0, 2)", Checks.INDEX, () -> x.other(-1, 0, 2));
        noDiagonals(x, "other", (a, b) -> x.other(1, a, b));
    }

    private static void whyNot() {
        CHECKS.about("promise 21");
        FlipPolygons x = new FlipPolygons();
        x.fan(1, 1);
        x.lock(0, 3, true);
        due("whyNot(0, 2)", x.whyNot(0, 2), 0);
        due("whyNot(0, 3)", x.whyNot(0, 3), 2);
        due("whyNot(1, 3), in the goal alone", x.whyNot(1, 3), 1);
        x.lock(0, 3, false);
        due("whyNot(0, 3), unlocked", x.whyNot(0, 3), 0);
        noDiagonals(x, "whyNot", (a, b) -> x.whyNot(a, b));
    }

    private static void dueDistances(FlipPolygons x, int... want) {
        for (int what = 0; what < want.length; what++) {
            due("distance(" + what + ")", x.distance(what), want[what]);
        }
    }

    private static void distance() {
        CHECKS.about("promise 22");
        FlipPolygons x = new FlipPolygons();
        dueDistances(x, 0, 0, 0, 1, NONE, 3);
        x.fan(1, 3);
        // 02 and 04 lie apart from each other; both orders of their flips are ways
        x.fan(0, 0);
        dueDistances(x, 2, 2, 2, 2, 0, 1);
        FlipPolygons square = Scenes.polygon(4, "13", "02");
        dueDistances(square, 1, 1, 1, 1, 1, 0);
        FlipPolygons pentagon = Scenes.polygon(5, "02,03", "14,24");
        // the five triangulations are a ring: 02,03 - 03,13 - 13,14 - 14,24 - 02,24
        dueDistances(pentagon, 2, 2, 2, 1, 1, 0);
        for (int what : new int[] {-1, 6, Integer.MAX_VALUE}) {
            CHECKS.dueThrow(x, "distance(" + what + ")", Checks.ARGUMENT, () -> x.distance(what));
        }
    }

    private static void distanceWithLocks() {
        CHECKS.about("promise 22");
        FlipPolygons x = Scenes.polygon(6, "02,03,04", "03,13,35");
        x.lock(0, 3, true);
        dueDistances(x, 2, 2, 2, 2, 0, 1);
        due("whyNot", x.whyNot(0, 3), 2);
        x.lock(0, 2, true);
        dueDistances(x, NONE, 2, 2, 0, NONE, 1);
        x.lock(0, 2, false);
        x.flip(1, 0, 3);
        due("03 is locked, and gone from the goal", x.distance(0), NONE);
        due("the free distance stays", x.distance(1), x.distance(2));
        due("no ways", x.distance(3), 0);
        due("no next flip", x.distance(4), NONE);
        FlipPolygons same = new FlipPolygons();
        same.lock(0, 2, true);
        due("the goal, 02 locked", same.distance(0), 0);
        same.lock(0, 2, false);
        same.flip(0, 0, 2);
        same.lock(0, 3, true);
        due("one flip from the goal, 03 locked", same.distance(0), 1);
        same.walk(1);
        same.lock(0, 2, true);
        same.lock(0, 3, true);
        same.lock(0, 4, true);
        dueDistances(same, 0, 0, 0, 1, NONE, 3);
    }

    private static void distanceByParts() {
        CHECKS.about("promise 22");
        // 03 and 36 and 06 cut three quadrangles off, each one flip away
        FlipPolygons x = Scenes.polygon(9, "02,03,35,36,68,06", "13,03,46,36,07,06");
        dueDistances(x, 3, 3, 3, 6, 0, 3);
        // two pentagons on both sides of 04, each two flips away: 2 over 4 orders of the flips
        FlipPolygons y = Scenes.polygon(8, "04,02,03,46,47", "04,14,24,57,05");
        dueDistances(y, 4, 4, 4);
        due("diagonals that both have", y.distance(5), 1);
    }

    private static void ifFlipped() {
        CHECKS.about("promise 23");
        FlipPolygons x = Scenes.polygon(6, "02,03,04", "03,13,35");
        due("ifFlipped(0, 2)", x.ifFlipped(0, 2), 1);
        due("ifFlipped(0, 4)", x.ifFlipped(0, 4), 1);
        due("ifFlipped(0, 3), away from the goal", x.ifFlipped(0, 3), 3);
        due("ifFlipped(1, 3), not there", x.ifFlipped(1, 3), NONE);
        x.lock(0, 2, true);
        due("ifFlipped(0, 2), locked", x.ifFlipped(0, 2), 1);
        due("ifFlipped(0, 4), with a lock", x.ifFlipped(0, 4), 1);
        due("present", x.triangulation(0, 0), 7);
        noDiagonals(x, "ifFlipped", (a, b) -> x.ifFlipped(a, b));
    }

    private static void count() {
        CHECKS.about("promise 24");
        FlipPolygons x = new FlipPolygons();
        x.flip(0, 0, 3);
        x.flip(1, 0, 2);
        x.lock(2, 4, true);
        x.lock(0, 4, true);
        x.take(1);
        int[] want = {6, 9, 14, 3, 4, 2, 2, 64 + 4, 1, 4};
        for (int what = 0; what < want.length; what++) {
            due("count(" + what + ")", x.count(what), want[what]);
        }
        x.lock(2, 4, false);
        x.lock(0, 4, false);
        due("walk(20)", x.walk(20), x.count(5) - 2);
        for (int what : new int[] {-1, 10, Integer.MIN_VALUE}) {
            CHECKS.dueThrow(x, "count(" + what + ")", Checks.ARGUMENT, () -> x.count(what));
        }
    }

    /** The program writes these out; here they are counted. */
    private static void countsOfAllPolygons() {
        CHECKS.about("promise 24");
        FlipPolygons x = new FlipPolygons();
        for (int n = 4; n <= 9; n++) {
            x.begin(n);
            due("count(0)", x.count(0), n);
            due("count(1) for " + n, x.count(1), n * (n - 3) / 2);
            for (int what = 2; what <= 4; what++) {
                due("count(" + what + ") for " + n, x.count(what), PlainModel.countsOf(n)[what - 2]);
            }
        }
    }

    private static void farShare() {
        CHECKS.about("promise 25");
        FlipPolygons x = new FlipPolygons();
        CHECKS.isTrue("farShare() is 0 at the goal", x.farShare() == 0.0 && 1 / x.farShare() > 0);
        x.fan(1, 3);
        CHECKS.isTrue("farShare() is a half", x.farShare() == 0.5);
        x.lock(0, 2, true);
        CHECKS.isTrue("farShare() is free", x.farShare() == 0.5);
        FlipPolygons nine = Scenes.polygon(9, "02,03,35,36,68,06", "13,03,46,36,07,06");
        CHECKS.isTrue("farShare() is 3 of 9", nine.farShare() == 3.0 / 9.0);
        FlipPolygons square = Scenes.polygon(4, "13", "02");
        CHECKS.isTrue("farShare() is 1", square.farShare() == 1.0);
    }

    private static void digest() {
        CHECKS.about("promise 26");
        FlipPolygons x = new FlipPolygons();
        due("digest() of a new object", x.digest(), Scenes.digestOf(x, ""));
        due("digest() changes nothing", x.digest(), Scenes.digestOf(x, ""));
        Scenes.type(x, "02,~");
        x.lock(0, 3, true);
        x.fan(1, 4);
        x.take(0);
        due("digest()", x.digest(), Scenes.digestOf(x, "02,~"));
        for (int n = 4; n <= 9; n++) {
            digestOfEachShare(n);
        }
    }

    /** Every share that there is: i flips of the greatest distance; an object has 512 calls. */
    private static void digestOfEachShare(int n) {
        FlipPolygons first = new FlipPolygons();
        first.begin(n);
        String far = farText(first, n);
        int steps = first.triangulation(0, 5);
        for (int made = 0; made <= steps; made++) {
            FlipPolygons x = new FlipPolygons();
            x.begin(n);
            Scenes.put(x, 1, far);
            due("the eccentricity", x.distance(1), steps);
            if (made > 0) {
                x.walk(made);
            }
            due("flips left", x.distance(0), steps - made);
            due("digest() for " + n, x.digest(), Scenes.digestOf(x, ""));
        }
    }

    /** The text of a triangulation that is as far from the present one as can be. */
    private static String farText(FlipPolygons x, int n) {
        int mask = x.triangulation(0, 6);
        StringBuilder text = new StringBuilder();
        int number = 0;
        for (String diagonal : PlainModel.diagonals(n)) {
            if ((mask >> number & 1) == 1) {
                text.append(text.length() == 0 ? "" : ",").append(diagonal);
            }
            number++;
        }
        return text.toString();
    }

    /** Each triangulation of each polygon as the present one, before three goals and with a lock. */
    private static void allTriangulations() {
        CHECKS.about("all triangulations");
        for (int n = 4; n <= 9; n++) {
            for (java.util.Set<String> set : PlainModel.graph(n).keySet()) {
                FlipPolygons x = new FlipPolygons();
                PlainModel model = new PlainModel();
                x.begin(n);
                model.begin(n);
                String text = String.join(",", set);
                for (int code : text.toCharArray()) {
                    x.append(code);
                    model.append(code);
                }
                due("read(0) of " + text, x.read(0), model.read(0));
                due("digest() with " + text, x.digest(), model.digest());
                due("mirror(1)", x.mirror(1), model.mirror(1));
                due("digest() with " + text, x.digest(), model.digest());
                due("turn(1, 4)", x.turn(1, 4), model.turn(1, 4));
                int a = text.charAt(0) - '0';
                int b = text.charAt(1) - '0';
                due("lock", x.lock(a, b, true), model.lock(a, b, true));
                due("digest() with " + text, x.digest(), model.digest());
            }
        }
    }
}
