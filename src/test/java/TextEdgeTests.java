import java.util.ArrayList;
import java.util.List;
import java.util.TreeSet;

/** The boundary cases of the promises 10 to 13 and of the input text: what fits, what is wrong. */
public final class TextEdgeTests {
    private static final Checks CHECKS = new Checks();
    private static final int LEAST = Integer.MIN_VALUE;
    private static final int MOST = Integer.MAX_VALUE;
    private static final int FIRST_CODE = 33;
    private static final int LAST_CODE = 126;

    public static void main(String[] args) {
        appendInRange();
        appendOutOfRange();
        appendUpToTheFullBuffer();
        appendRefusedInOrder();
        appendIsNotUndoable();
        clearEmptyAndFull();
        clearIsNotUndoable();
        errorOfTheEmptyBuffer();
        errorInTheFirstCorner();
        errorInTheSecondCorner();
        errorInTheSeparator();
        errorBehindTheLast();
        errorBehindAnError();
        errorOfCharactersThatAreNoDigits();
        errorIsNotInWhatIsToldTwice();
        errorForNAsItIsNow();
        errorInTheFullBuffer();
        readOfEachSize();
        readOutOfRange();
        readOfTooLittle();
        readOfTooMuch();
        readOfAnError();
        readOfOneToldTwice();
        readOfCrossing();
        readRefusedInOrder();
        readClearsTheBuffer();
        readAndLocks();
        readOfTheSame();
        CHECKS.end();
    }

    private static void due(String call, long got, long want) {
        CHECKS.due(call, got, want);
    }

    private static FlipPolygons polygon(int n) {
        FlipPolygons x = new FlipPolygons();
        x.begin(n);
        return x;
    }

    private static FlipPolygons typed(int n, String text) {
        FlipPolygons x = polygon(n);
        Scenes.type(x, text);
        return x;
    }

    /** An object with something in every place, and this text. */
    private static FlipPolygons busyTyped(int n, String text) {
        FlipPolygons x = Scenes.busy(n);
        x.clearBuffer();
        Scenes.type(x, text);
        return x;
    }

    private static FlipPolygons full() {
        return busyTyped(6, "0".repeat(60));
    }

    private static String fanText(int n, int corner) {
        return String.join(",", PlainModel.fanOf(n, corner));
    }

    private static int fanMask(int n, int corner) {
        return PlainModel.mask(n, PlainModel.fanOf(n, corner));
    }

    // ---- promise 10

    private static void appendInRange() {
        CHECKS.about("promise 10: each code from 33 to 126");
        FlipPolygons x = new FlipPolygons();
        StringBuilder text = new StringBuilder();
        for (int code = FIRST_CODE; code <= LAST_CODE; code++) {
            if (text.length() == 60) {
                x.clearBuffer();
                text.setLength(0);
            }
            text.append((char) code);
            due("append(" + code + ")", x.append(code), text.length());
        }
        due("the codes in the digest", x.digest(), Scenes.digestOf(x, text.toString()));
    }

    private static void appendOutOfRange() {
        CHECKS.about("promise 10: code is not 33 to 126");
        for (int code : new int[] {32, 127, 0, -1, -48, 48 + 256, 48 + 65536, LEAST, MOST}) {
            CHECKS.dueRefusal(() -> Scenes.busy(6), "append(" + code + ")", Checks.ARGUMENT,
                    x -> x.append(code));
            CHECKS.dueRefusal(FlipPolygons::new, "append(" + code + ")", Checks.ARGUMENT,
                    x -> x.append(code));
        }
    }

    private static void appendUpToTheFullBuffer() {
        CHECKS.about("input text, promise 10: at most 60 characters");
        FlipPolygons x = new FlipPolygons();
        for (int length = 1; length <= 60; length++) {
            due("append(55)", x.append(55), length);
        }
        for (int code : new int[] {33, 48, 126}) {
            CHECKS.dueRefusal(TextEdgeTests::full, "append(" + code + "), full", Checks.STATE,
                    y -> y.append(code));
        }
        due("the full buffer's digest", x.digest(), Scenes.digestOf(x, "7".repeat(60)));
        due("clearBuffer()", x.clearBuffer(), 60);
        due("append(55), cleared", x.append(55), 1);
    }

    private static void appendRefusedInOrder() {
        CHECKS.about("promise 10: IllegalArgumentException before IllegalStateException");
        for (int code : new int[] {32, 127}) {
            CHECKS.dueRefusal(TextEdgeTests::full, "append(" + code + "), full", Checks.ARGUMENT,
                    x -> x.append(code));
        }
    }

    private static void appendIsNotUndoable() {
        CHECKS.about("promise 10: it saves no state, and no undo takes a character");
        FlipPolygons x = Scenes.busy(6);
        due("append(48)", x.append(48), 4);
        due("saved states", x.count(9), 4);
        x.undo();
        due("clearBuffer() behind undo()", x.clearBuffer(), 4);
    }

    // ---- promise 11

    private static void clearEmptyAndFull() {
        CHECKS.about("promise 11: the length that it had, from 0 to 60");
        FlipPolygons x = new FlipPolygons();
        due("clearBuffer(), empty", x.clearBuffer(), 0);
        for (int length : new int[] {1, 59, 60}) {
            Scenes.type(x, "4".repeat(length));
            due("clearBuffer()", x.clearBuffer(), length);
            due("clearBuffer() again", x.clearBuffer(), 0);
            due("digest()", x.digest(), Scenes.digestOf(x, ""));
        }
    }

    private static void clearIsNotUndoable() {
        CHECKS.about("promise 11: it saves no state, and no undo brings the buffer back");
        FlipPolygons x = Scenes.busy(6);
        due("clearBuffer()", x.clearBuffer(), 3);
        due("saved states", x.count(9), 4);
        x.undo();
        due("clearBuffer() behind undo()", x.clearBuffer(), 0);
    }

    // ---- promise 12

    private static void dueError(int n, String text, int want) {
        FlipPolygons x = typed(n, text);
        due("firstError() of " + text + " for " + n, x.firstError(), want);
        due("the length stays", x.clearBuffer(), text.length());
    }

    private static void errorOfTheEmptyBuffer() {
        CHECKS.about("promise 12: the length if there is none: 0 when empty");
        for (int n = 4; n <= 9; n++) {
            dueError(n, "", 0);
        }
    }

    /** The last two corners are the lesser one of no diagonal. */
    private static void errorInTheFirstCorner() {
        CHECKS.about("input text, promise 12: a diagonal begins with 0 to n - 3");
        for (int n = 4; n <= 9; n++) {
            for (int code = FIRST_CODE; code <= LAST_CODE; code++) {
                boolean good = code >= '0' && code <= '0' + n - 3;
                dueError(n, "" + (char) code, good ? 1 : 0);
                if (n > 4) {
                    dueError(n, "13," + (char) code, good ? 4 : 3);
                }
            }
        }
    }

    private static void errorInTheSecondCorner() {
        CHECKS.about("input text, promise 12: then comes the greater corner of a diagonal");
        for (int n = 4; n <= 9; n++) {
            List<String> diagonals = PlainModel.diagonals(n);
            for (int a = 0; a <= n - 3; a++) {
                for (int code = FIRST_CODE; code <= LAST_CODE; code++) {
                    String text = "" + a + (char) code;
                    dueError(n, text, diagonals.contains(text) ? 2 : 1);
                }
            }
        }
    }

    private static void errorInTheSeparator() {
        CHECKS.about("input text, promise 12: between two diagonals is ',', and behind the last none");
        for (int code = FIRST_CODE; code <= LAST_CODE; code++) {
            dueError(4, "02" + (char) code, 2);
            dueError(5, "02" + (char) code, code == ',' ? 3 : 2);
            dueError(9, "02" + (char) code, code == ',' ? 3 : 2);
            dueError(5, "02,03" + (char) code, 5);
        }
    }

    private static void errorBehindTheLast() {
        CHECKS.about("input text, promise 12: n - 3 diagonals, and then nothing");
        for (int n = 4; n <= 9; n++) {
            String text = fanText(n, n - 1);
            for (int length = 0; length <= text.length(); length++) {
                dueError(n, text.substring(0, length), length);
            }
            for (char more : new char[] {',', '0', '1', '!', '~'}) {
                dueError(n, text + more, text.length());
            }
            dueError(n, text + ",02", text.length());
        }
    }

    private static void errorBehindAnError() {
        CHECKS.about("promise 12: the first one of several");
        dueError(6, "!02", 0);
        dueError(6, "0!,0!", 1);
        dueError(6, "02!!!", 2);
        dueError(6, ",,", 0);
        dueError(6, "02,,03", 3);
        dueError(6, "02,03,04!,", 8);
        dueError(4, "20", 0);
        dueError(4, "03,", 1);
    }

    /** Told by their codes, some of them would be corners as well. */
    private static void errorOfCharactersThatAreNoDigits() {
        CHECKS.about("input text, promise 12: corners are told by digits");
        dueError(9, "/2", 0);
        dueError(9, ":2", 0);
        dueError(9, "0:", 1);
        dueError(9, "0/", 1);
        dueError(9, "0B", 1);
        dueError(9, "A2", 0);
        dueError(9, "02-", 2);
        dueError(9, "+", 0);
        dueError(9, "-", 0);
    }

    private static void errorIsNotInWhatIsToldTwice() {
        CHECKS.about("input text, promise 12: crossing, or told twice, is no matter of syntax");
        dueError(5, "02,02", 5);
        dueError(5, "13,24", 5);
        dueError(6, "03,14,25", 8);
        dueError(9, "13,13,13,13,13,13", 17);
        dueError(9, "04,15,26,37,48,05", 17);
    }

    private static void errorForNAsItIsNow() {
        CHECKS.about("input text, promise 12: for n as it is now");
        FlipPolygons x = typed(9, "02,26,68,17");
        due("for 9", x.firstError(), 11);
        int[] want = {2, 4, 4, 6, 6, 11};
        for (int n = 4; n <= 9; n++) {
            x.begin(n);
            due("for " + n, x.firstError(), want[n - 4]);
        }
        x.begin(4);
        x.take(0);
        x.undo();
        due("behind undo(), for 9", x.firstError(), 11);
        x.restore(0);
        due("behind restore(0), for 4", x.firstError(), 2);
    }

    private static void errorInTheFullBuffer() {
        CHECKS.about("input text, promise 12: in a full buffer");
        dueError(9, fanText(9, 0) + "~".repeat(43), 17);
        dueError(9, "~".repeat(60), 0);
        dueError(4, "13" + "1".repeat(58), 2);
    }

    // ---- promise 13

    private static void readOfEachSize() {
        CHECKS.about("promise 13: which is 0 or 1, for each n");
        for (int n = 4; n <= 9; n++) {
            for (int which = 0; which <= 1; which++) {
                FlipPolygons x = typed(n, fanText(n, n - 1));
                due("read(" + which + ") for " + n, x.read(which), fanMask(n, n - 1));
                due("it", x.triangulation(which, 0), fanMask(n, n - 1));
                due("the other one", x.triangulation(1 - which, 0), fanMask(n, 0));
            }
        }
    }

    private static void dueRead(int n, String text, String exception) {
        for (int which = 0; which <= 1; which++) {
            int of = which;
            CHECKS.dueRefusal(() -> busyTyped(n, text), "read(" + of + ") of " + text + " for " + n,
                    exception, x -> x.read(of));
        }
    }

    private static void readOutOfRange() {
        CHECKS.about("promise 13: which is not 0 or 1");
        for (int which : new int[] {-1, 2, LEAST, MOST}) {
            for (int n = 4; n <= 9; n++) {
                int corners = n;
                CHECKS.dueRefusal(() -> busyTyped(corners, fanText(corners, 2)),
                        "read(" + which + ") for " + n, Checks.INDEX, x -> x.read(which));
            }
        }
    }

    private static void readOfTooLittle() {
        CHECKS.about("promise 13: not complete: each beginning of a text, from the empty one on");
        for (int n = 4; n <= 9; n++) {
            String text = fanText(n, 1);
            for (int length = 0; length < text.length(); length++) {
                dueRead(n, text.substring(0, length), Checks.ARGUMENT);
            }
        }
    }

    private static void readOfTooMuch() {
        CHECKS.about("promise 13: not complete: more than n - 3 diagonals");
        for (int n = 4; n <= 9; n++) {
            String text = fanText(n, 0);
            dueRead(n, text + ",", Checks.ARGUMENT);
            dueRead(n, text + "0", Checks.ARGUMENT);
            dueRead(n, text + ",13", Checks.ARGUMENT);
            dueRead(n, text + ",02", Checks.ARGUMENT);
            dueRead(n, "," + text, Checks.ARGUMENT);
            dueRead(n, (text + ",").repeat(20).substring(0, 60), Checks.ARGUMENT);
        }
    }

    /** One wrong character in a text of the right length, at each place. */
    private static void readOfAnError() {
        CHECKS.about("promise 13: not a text: a syntax error at each place");
        for (int n = 4; n <= 9; n++) {
            String text = fanText(n, 0);
            for (int at = 0; at < text.length(); at++) {
                for (char wrong : new char[] {'9', '!', text.charAt(at) == ',' ? ';' : ','}) {
                    String told = text.substring(0, at) + wrong + text.substring(at + 1);
                    dueRead(n, told, Checks.ARGUMENT);
                }
            }
            dueRead(n, new StringBuilder(text).reverse().toString(), Checks.ARGUMENT);
        }
    }

    private static void readOfOneToldTwice() {
        CHECKS.about("promise 13: a diagonal is told twice, the first and the last one, too");
        for (int n = 5; n <= 9; n++) {
            List<String> fan = new ArrayList<>(PlainModel.fanOf(n, 0));
            for (int one = 0; one < fan.size(); one++) {
                for (int two = 0; two < fan.size(); two++) {
                    List<String> told = new ArrayList<>(fan);
                    told.set(one, fan.get(two));
                    if (one != two) {
                        dueRead(n, String.join(",", told), Checks.STATE);
                    }
                }
            }
        }
    }

    /** Each diagonal of a fan but the near ones is crossed by 13; it stands at each place. */
    private static void readOfCrossing() {
        CHECKS.about("promise 13: two of them cross, the first and the last one, too");
        for (int n = 5; n <= 9; n++) {
            List<String> fan = new ArrayList<>(PlainModel.fanOf(n, 0));
            for (int at = 0; at < fan.size(); at++) {
                List<String> told = new ArrayList<>(fan);
                told.set(at, "13");
                boolean crossing = told.contains("02");
                if (crossing) {
                    dueRead(n, String.join(",", told), Checks.STATE);
                } else {
                    int mask = PlainModel.mask(n, new TreeSet<>(told));
                    due("read(0) of " + told, typed(n, String.join(",", told)).read(0), mask);
                }
            }
        }
        dueRead(6, "03,14,25", Checks.STATE);
        dueRead(6, "24,02,35", Checks.STATE);
    }

    private static void readRefusedInOrder() {
        CHECKS.about("promise 13: IndexOutOfBounds before IllegalArgument before IllegalState");
        for (String text : new String[] {"", "02,!", "02,02,03", "02,13,04", "02,02,02,02"}) {
            for (int which : new int[] {-1, 2}) {
                CHECKS.dueRefusal(() -> busyTyped(6, text), "read(" + which + ") of " + text,
                        Checks.INDEX, x -> x.read(which));
            }
        }
        for (String text : new String[] {"02,02", "02,13", "02,02,02,02", "02,13,04,", "02,13,!3"}) {
            dueRead(6, text, Checks.ARGUMENT);
        }
    }

    private static void readClearsTheBuffer() {
        CHECKS.about("promise 13: it clears the buffer, which no undo brings back");
        for (int n = 4; n <= 9; n++) {
            FlipPolygons x = typed(n, fanText(n, 3));
            x.read(0);
            due("clearBuffer()", x.clearBuffer(), 0);
            due("undo()", x.undo(), 1);
            due("clearBuffer() behind undo()", x.clearBuffer(), 0);
            due("present", x.triangulation(0, 0), fanMask(n, 0));
        }
    }

    private static void readAndLocks() {
        CHECKS.about("promise 13: of the present one all locks are gone, also if it was this one");
        for (int n = 4; n <= 9; n++) {
            FlipPolygons x = typed(n, fanText(n, 0));
            x.lock(0, 2, true);
            x.read(1);
            due("locks behind read(1)", x.count(7), 1);
            Scenes.type(x, fanText(n, 0));
            x.read(0);
            due("locks behind read(0)", x.count(7), 0);
        }
    }

    private static void readOfTheSame() {
        CHECKS.about("promise 13: undoable, also if it changes nothing");
        for (int n = 4; n <= 9; n++) {
            FlipPolygons x = typed(n, fanText(n, 0));
            due("read(1)", x.read(1), fanMask(n, 0));
            due("saved states", x.count(9), 2);
            due("flips are not counted", x.count(5), 0);
        }
    }
}
