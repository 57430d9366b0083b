/** Objects that tests begin with, and what can be seen of an object. */
final class Scenes {
    private Scenes() {
    }

    static void type(FlipPolygons x, String text) {
        for (int at = 0; at < text.length(); at++) {
            x.append(text.charAt(at));
        }
    }

    static void put(FlipPolygons x, int which, String text) {
        x.clearBuffer();
        type(x, text);
        x.read(which);
    }

    static FlipPolygons polygon(int n, String present, String goal) {
        FlipPolygons x = new FlipPolygons();
        x.begin(n);
        put(x, 0, present);
        put(x, 1, goal);
        return x;
    }

    /**
     * An object with something in every place: one flip, the lock of 13, which the goal has, too,
     * four saved states, the snapshot 1 but not 0, and a buffer with an error at 2.
     */
    static FlipPolygons busy(int n) {
        FlipPolygons x = new FlipPolygons();
        x.begin(n);
        x.fan(1, 1);
        x.take(1);
        x.flip(0, 0, 2);
        x.lock(1, 3, true);
        type(x, "02;");
        return x;
    }

    /** All that can ever be seen of an object; to see it, its saved states are used up. */
    static String deepLook(FlipPolygons x) {
        StringBuilder seen = new StringBuilder();
        seen.append(x.digest()).append(" error at ").append(x.firstError());
        while (x.count(9) > 0) {
            seen.append(" undo ").append(x.undo()).append(' ').append(x.digest());
        }
        for (int snapshot = 0; snapshot <= 1; snapshot++) {
            int number = snapshot;
            seen.append(" restore ").append(Checks.outcome(() -> x.restore(number)));
            seen.append(' ').append(x.digest());
        }
        return seen.toString();
    }

    /** The digest told from the answers of all other calls. */
    static long digestOf(FlipPolygons x, String buffer) {
        long hash = 2477;
        for (int what = 0; what <= 9; what++) {
            hash = 31 * hash + x.count(what);
        }
        for (int which = 0; which <= 1; which++) {
            for (int what = 0; what <= 6; what++) {
                hash = 31 * hash + x.triangulation(which, what);
            }
            for (int corner = 0; corner < x.count(0); corner++) {
                hash = 31 * hash + x.degree(which, corner);
            }
        }
        for (int what = 0; what <= 5; what++) {
            hash = 31 * hash + x.distance(what);
        }
        for (String diagonal : PlainModel.diagonals(x.count(0))) {
            int a = diagonal.charAt(0) - '0';
            int b = diagonal.charAt(1) - '0';
            hash = 31 * hash + x.other(0, a, b);
            hash = 31 * hash + x.other(1, a, b);
            hash = 31 * hash + x.whyNot(a, b);
            hash = 31 * hash + x.ifFlipped(a, b);
        }
        hash = 31 * hash + Double.doubleToLongBits(x.farShare());
        hash = 31 * hash + buffer.length();
        for (char code : buffer.toCharArray()) {
            hash = 31 * hash + code;
        }
        return hash;
    }
}
