import java.util.ArrayDeque;
import java.util.ArrayList;
import java.util.Arrays;
import java.util.Collections;
import java.util.HashMap;
import java.util.HashSet;
import java.util.List;
import java.util.Map;
import java.util.Set;
import java.util.TreeSet;

/**
 * The document once more, as plainly as it can be told and on other ways than the program: a
 * triangulation is a set of diagonals, a diagonal the text of its two corners, and two
 * triangulations are a flip apart if they differ in one diagonal.
 */
final class PlainModel {
    static final int NONE = -1;

    /** What a snapshot and a saved state hold; sets in it are never changed, only replaced. */
    private record State(int n, Set<String> present, Set<String> goal, Set<String> locks, int flips) {
        Set<String> of(int which) {
            return which == 0 ? present : goal;
        }

        State with(int which, Set<String> diagonals, Set<String> newLocks) {
            return which == 0 ? new State(n, diagonals, goal, newLocks, flips)
                    : new State(n, present, diagonals, locks, flips);
        }
    }

    private static final Map<Integer, Map<Set<String>, List<Set<String>>>> GRAPHS = new HashMap<>();
    private static final Map<Integer, int[]> COUNTS = new HashMap<>();
    private static final Map<String, Map<Set<String>, Integer>> FLIPS = new HashMap<>();

    private State now = new State(6, fanOf(6, 0), fanOf(6, 0), Set.of(), 0);
    private final List<State> saved = new ArrayList<>();
    private final State[] snapshots = new State[2];
    private String buffer = "";

    // ---- polygons and their triangulations

    static List<String> diagonals(int n) {
        List<String> all = new ArrayList<>();
        for (int a = 0; a < n; a++) {
            for (int b = a + 1; b < n; b++) {
                boolean neighbors = b == a + 1 || a == 0 && b == n - 1;
                if (!neighbors) {
                    all.add("" + a + b);
                }
            }
        }
        return all;
    }

    private static int low(String diagonal) {
        return diagonal.charAt(0) - '0';
    }

    private static int high(String diagonal) {
        return diagonal.charAt(1) - '0';
    }

    /** Walks around the polygon from one corner to the next and meets both diagonals in turn. */
    private static boolean cross(int n, String one, String two) {
        StringBuilder met = new StringBuilder();
        for (int corner = 0; corner < n; corner++) {
            if (one.indexOf('0' + corner) >= 0) {
                met.append('1');
            }
            if (two.indexOf('0' + corner) >= 0) {
                met.append('2');
            }
        }
        return new HashSet<>(List.of(low(one), high(one), low(two), high(two))).size() == 4
                && (met.toString().equals("1212") || met.toString().equals("2121"));
    }

    static Set<String> fanOf(int n, int corner) {
        Set<String> fan = new TreeSet<>();
        for (String diagonal : diagonals(n)) {
            if (low(diagonal) == corner || high(diagonal) == corner) {
                fan.add(diagonal);
            }
        }
        return fan;
    }

    static int mask(int n, Set<String> set) {
        int mask = 0;
        List<String> all = diagonals(n);
        for (String diagonal : set) {
            mask |= 1 << all.indexOf(diagonal);
        }
        return mask;
    }

    /** Of every triangulation of the polygon, those that differ from it in one diagonal. */
    static Map<Set<String>, List<Set<String>>> graph(int n) {
        if (!GRAPHS.containsKey(n)) {
            List<Set<String>> all = new ArrayList<>();
            choose(n, 0, new TreeSet<>(), all);
            Map<Set<String>, List<Set<String>>> graph = new HashMap<>();
            for (Set<String> one : all) {
                List<Set<String>> near = new ArrayList<>();
                for (Set<String> two : all) {
                    if (both(one, two).size() == n - 4) {
                        near.add(two);
                    }
                }
                graph.put(one, near);
            }
            GRAPHS.put(n, graph);
        }
        return GRAPHS.get(n);
    }

    private static void choose(int n, int from, Set<String> chosen, List<Set<String>> all) {
        if (chosen.size() == n - 3) {
            all.add(new TreeSet<>(chosen));
            return;
        }
        List<String> diagonals = diagonals(n);
        for (int at = from; at < diagonals.size(); at++) {
            String next = diagonals.get(at);
            if (chosen.stream().noneMatch(old -> cross(n, old, next))) {
                chosen.add(next);
                choose(n, at + 1, chosen, all);
                chosen.remove(next);
            }
        }
    }

    private static Set<String> both(Set<String> one, Set<String> two) {
        Set<String> common = new TreeSet<>(one);
        common.retainAll(two);
        return common;
    }

    /** The least flips from a triangulation to all that come of it without flips of locked ones. */
    private static Map<Set<String>, Integer> flipsFrom(int n, Set<String> start, Set<String> locks) {
        return FLIPS.computeIfAbsent(n + " " + start + " " + locks, key -> spread(n, start, locks));
    }

    private static Map<Set<String>, Integer> spread(int n, Set<String> start, Set<String> locks) {
        Map<Set<String>, Integer> flips = new HashMap<>();
        ArrayDeque<Set<String>> queue = new ArrayDeque<>();
        flips.put(start, 0);
        queue.add(start);
        while (!queue.isEmpty()) {
            Set<String> from = queue.remove();
            for (Set<String> to : graph(n).get(from)) {
                boolean flipsLocked = from.stream().anyMatch(d -> locks.contains(d) && !to.contains(d));
                if (!flipsLocked && !flips.containsKey(to)) {
                    flips.put(to, flips.get(from) + 1);
                    queue.add(to);
                }
            }
        }
        return flips;
    }

    private static int freeFlips(int n, Set<String> one, Set<String> two) {
        return flipsFrom(n, one, Set.of()).get(two);
    }

    private static Set<String> moved(int n, Set<String> set, boolean mirror, int turns) {
        Set<String> image = new TreeSet<>();
        for (String diagonal : set) {
            int a = ((mirror ? n - 1 - low(diagonal) : low(diagonal)) + turns) % n;
            int b = ((mirror ? n - 1 - high(diagonal) : high(diagonal)) + turns) % n;
            image.add("" + Math.min(a, b) + Math.max(a, b));
        }
        return image;
    }

    static List<Set<String>> images(int n, Set<String> set) {
        List<Set<String>> images = new ArrayList<>();
        for (int turns = 0; turns < n; turns++) {
            images.add(moved(n, set, false, turns));
            images.add(moved(n, set, true, turns));
        }
        return images;
    }

    static int code(int n, Set<String> set) {
        return images(n, set).stream().mapToInt(image -> mask(n, image)).min().orElseThrow();
    }

    /** Triangulations, classes, and the greatest free distance. */
    static int[] countsOf(int n) {
        if (!COUNTS.containsKey(n)) {
            Set<Integer> codes = new HashSet<>();
            int greatest = 0;
            for (Set<String> one : graph(n).keySet()) {
                codes.add(code(n, one));
                greatest = Math.max(greatest, Collections.max(flipsFrom(n, one, Set.of()).values()));
            }
            COUNTS.put(n, new int[] {graph(n).size(), codes.size(), greatest});
        }
        return COUNTS.get(n);
    }

    // ---- what the calls share

    private static void needIndex(boolean holds) {
        if (!holds) {
            throw new IndexOutOfBoundsException();
        }
    }

    private static void needArgument(boolean holds) {
        if (!holds) {
            throw new IllegalArgumentException();
        }
    }

    private static void needState(boolean holds) {
        if (!holds) {
            throw new IllegalStateException();
        }
    }

    private void needWhich(int which) {
        needIndex(which == 0 || which == 1);
    }

    private void needCorner(int corner) {
        needIndex(corner >= 0 && corner < now.n);
    }

    /** The diagonal of two corners, which have to be one. */
    private String needDiagonal(int a, int b) {
        needIndex(a >= 0 && a <= 9 && b >= 0 && b <= 9);
        needIndex(diagonals(now.n).contains("" + a + b));
        return "" + a + b;
    }

    private void save() {
        saved.add(now);
        if (saved.size() > 6) {
            saved.remove(0);
        }
    }

    private int maskOf(Set<String> set) {
        return mask(now.n, set);
    }

    private int numberOf(String diagonal) {
        return diagonals(now.n).indexOf(diagonal);
    }

    /** The triangulation behind a flip: the one without this diagonal, but with all others. */
    private Set<String> behindFlip(Set<String> set, String diagonal) {
        for (Set<String> near : graph(now.n).get(set)) {
            if (!near.contains(diagonal)) {
                return near;
            }
        }
        throw new AssertionError("a diagonal that cannot be flipped");
    }

    private String gained(Set<String> before, Set<String> behind) {
        Set<String> news = new TreeSet<>(behind);
        news.removeAll(before);
        return news.iterator().next();
    }

    private int lockedDistance(Set<String> from) {
        return flipsFrom(now.n, from, now.locks).getOrDefault(now.goal, NONE);
    }

    private int nextFlip() {
        int before = lockedDistance(now.present);
        if (before <= 0) {
            return NONE;
        }
        for (String diagonal : diagonals(now.n)) {
            if (now.present.contains(diagonal) && !now.locks.contains(diagonal)
                    && lockedDistance(behindFlip(now.present, diagonal)) == before - 1) {
                return numberOf(diagonal);
            }
        }
        throw new AssertionError("no next flip");
    }

    /** Tries every way that comes nearer with each flip. */
    private int shortestWays(Set<String> from, Map<Set<String>, Integer> toGoal) {
        if (from.equals(now.goal)) {
            return 1;
        }
        int ways = 0;
        for (Set<String> to : graph(now.n).get(from)) {
            if (toGoal.containsKey(to) && toGoal.get(to) == toGoal.get(from) - 1) {
                ways += shortestWays(to, toGoal);
            }
        }
        return ways;
    }

    private int shortestWays() {
        if (lockedDistance(now.present) == NONE) {
            return 0;
        }
        return shortestWays(now.present, flipsFrom(now.n, now.goal, now.locks));
    }

    /** Cuts along one diagonal that both have, and goes on with each side by itself. */
    static int byParts(int n, Set<String> one, Set<String> two) {
        if (n == 3) {
            return 0;
        }
        Set<String> common = both(one, two);
        if (common.isEmpty()) {
            return freeFlips(n, one, two);
        }
        String cut = common.iterator().next();
        List<Integer> inside = new ArrayList<>();
        List<Integer> outside = new ArrayList<>();
        for (int corner = 0; corner < n; corner++) {
            if (corner >= low(cut) && corner <= high(cut)) {
                inside.add(corner);
            }
            if (corner <= low(cut) || corner >= high(cut)) {
                outside.add(corner);
            }
        }
        return byParts(inside.size(), within(one, inside), within(two, inside))
                + byParts(outside.size(), within(one, outside), within(two, outside));
    }

    private static Set<String> within(Set<String> set, List<Integer> corners) {
        Set<String> anew = new TreeSet<>();
        for (String diagonal : set) {
            int a = corners.indexOf(low(diagonal));
            int b = corners.indexOf(high(diagonal));
            if (a >= 0 && diagonals(corners.size()).contains("" + a + b)) {
                anew.add("" + a + b);
            }
        }
        return anew;
    }

    // ---- the calls

    int begin(int n) {
        needArgument(n >= 4 && n <= 9);
        save();
        int before = now.n;
        now = new State(n, fanOf(n, 0), fanOf(n, 0), Set.of(), now.flips);
        return before;
    }

    int flip(int which, int a, int b) {
        needWhich(which);
        String diagonal = needDiagonal(a, b);
        needState(now.of(which).contains(diagonal));
        needState(which == 1 || !now.locks.contains(diagonal));
        save();
        Set<String> before = now.of(which);
        Set<String> behind = behindFlip(before, diagonal);
        now = now.with(which, behind, now.locks);
        now = new State(now.n, now.present, now.goal, now.locks, now.flips + 1);
        return numberOf(gained(before, behind));
    }

    int fan(int which, int corner) {
        needWhich(which);
        needCorner(corner);
        save();
        Set<String> fan = fanOf(now.n, corner);
        int were = both(fan, now.of(which)).size();
        now = now.with(which, fan, Set.of());
        return were;
    }

    int turn(int which, int k) {
        needWhich(which);
        needArgument(k >= 0 && k <= 8);
        save();
        now = now.with(which, moved(now.n, now.of(which), false, k), moved(now.n, now.locks, false, k));
        return maskOf(now.of(which));
    }

    int mirror(int which) {
        needWhich(which);
        save();
        now = now.with(which, moved(now.n, now.of(which), true, 0), moved(now.n, now.locks, true, 0));
        return maskOf(now.of(which));
    }

    int exchange() {
        save();
        now = new State(now.n, now.goal, now.present, Set.of(), now.flips);
        return maskOf(now.present);
    }

    int lock(int a, int b, boolean is) {
        String diagonal = needDiagonal(a, b);
        needState(now.present.contains(diagonal));
        save();
        Set<String> locks = new TreeSet<>(now.locks);
        locks.remove(diagonal);
        if (is) {
            locks.add(diagonal);
        }
        now = now.with(0, now.present, locks);
        return locks.size();
    }

    int walk(int flips) {
        needArgument(flips >= 1 && flips <= 20);
        needState(lockedDistance(now.present) != NONE);
        save();
        int made = 0;
        while (made < flips && !now.present.equals(now.goal)) {
            Set<String> behind = behindFlip(now.present, diagonals(now.n).get(nextFlip()));
            now = new State(now.n, behind, now.goal, now.locks, now.flips + 1);
            made++;
        }
        return made;
    }

    int append(int code) {
        needArgument(code >= 33 && code <= 126);
        needState(buffer.length() < 60);
        buffer += (char) code;
        return buffer.length();
    }

    int clearBuffer() {
        int length = buffer.length();
        buffer = "";
        return length;
    }

    /** Tries, character by character, whether any text of n - 3 diagonals begins like this. */
    int firstError() {
        for (int length = 1; length <= buffer.length(); length++) {
            if (!begins(buffer.substring(0, length), now.n - 3)) {
                return length - 1;
            }
        }
        return buffer.length();
    }

    private boolean begins(String text, int diagonalsLeft) {
        for (String diagonal : diagonals(now.n)) {
            String told = diagonalsLeft == 1 ? diagonal : diagonal + ",";
            if (told.startsWith(text)) {
                return true;
            }
            if (text.startsWith(told) && diagonalsLeft > 1) {
                return begins(text.substring(3), diagonalsLeft - 1);
            }
        }
        return false;
    }

    int read(int which) {
        needWhich(which);
        String[] told = buffer.split(",", -1);
        needArgument(told.length == now.n - 3);
        for (String diagonal : told) {
            needArgument(diagonals(now.n).contains(diagonal));
        }
        Set<String> set = new TreeSet<>(Arrays.asList(told));
        needState(set.size() == now.n - 3);
        for (String one : set) {
            for (String two : set) {
                needState(!cross(now.n, one, two));
            }
        }
        save();
        now = now.with(which, set, Set.of());
        buffer = "";
        return maskOf(set);
    }

    int take(int snapshot) {
        needIndex(snapshot == 0 || snapshot == 1);
        snapshots[snapshot] = now;
        return now.n;
    }

    int restore(int snapshot) {
        needIndex(snapshot == 0 || snapshot == 1);
        State from = snapshots[snapshot];
        needState(from != null);
        save();
        now = new State(from.n, from.present, from.goal, from.locks, now.flips);
        return now.n;
    }

    int undo() {
        needState(!saved.isEmpty());
        now = saved.remove(saved.size() - 1);
        return saved.size();
    }

    int number(int a, int b) {
        return numberOf(needDiagonal(a, b));
    }

    int triangulation(int which, int what) {
        needWhich(which);
        needArgument(what >= 0 && what <= 6);
        Set<String> set = now.of(which);
        if (what == 0) {
            return maskOf(set);
        }
        if (what == 1) {
            return code(now.n, set);
        }
        if (what == 2) {
            return Collections.frequency(images(now.n, set), set);
        }
        if (what == 3 || what == 4) {
            List<Integer> degrees = new ArrayList<>();
            for (int corner = 0; corner < now.n; corner++) {
                degrees.add(degree(which, corner));
            }
            return what == 3 ? Collections.frequency(degrees, 0) : Collections.max(degrees);
        }
        Map<Set<String>, Integer> flips = flipsFrom(now.n, set, Set.of());
        int most = Collections.max(flips.values());
        if (what == 5) {
            return most;
        }
        return flips.keySet().stream().filter(far -> flips.get(far) == most)
                .mapToInt(this::maskOf).min().orElseThrow();
    }

    int degree(int which, int corner) {
        needWhich(which);
        needCorner(corner);
        return both(fanOf(now.n, corner), now.of(which)).size();
    }

    int other(int which, int a, int b) {
        needWhich(which);
        String diagonal = needDiagonal(a, b);
        Set<String> set = now.of(which);
        return set.contains(diagonal) ? numberOf(gained(set, behindFlip(set, diagonal))) : NONE;
    }

    int whyNot(int a, int b) {
        String diagonal = needDiagonal(a, b);
        return !now.present.contains(diagonal) ? 1 : now.locks.contains(diagonal) ? 2 : 0;
    }

    int distance(int what) {
        needArgument(what >= 0 && what <= 5);
        return switch (what) {
            case 0 -> lockedDistance(now.present);
            case 1 -> freeFlips(now.n, now.present, now.goal);
            case 2 -> byParts(now.n, now.present, now.goal);
            case 3 -> shortestWays();
            case 4 -> nextFlip();
            default -> both(now.present, now.goal).size();
        };
    }

    int ifFlipped(int a, int b) {
        String diagonal = needDiagonal(a, b);
        if (!now.present.contains(diagonal)) {
            return NONE;
        }
        return freeFlips(now.n, behindFlip(now.present, diagonal), now.goal);
    }

    int count(int what) {
        needArgument(what >= 0 && what <= 9);
        return switch (what) {
            case 0 -> now.n;
            case 1 -> diagonals(now.n).size();
            case 2, 3, 4 -> countsOf(now.n)[what - 2];
            case 5 -> now.flips;
            case 6 -> now.locks.size();
            case 7 -> maskOf(now.locks);
            case 8 -> (snapshots[0] == null ? 0 : 1) + (snapshots[1] == null ? 0 : 1);
            default -> saved.size();
        };
    }

    double farShare() {
        return (double) distance(1) / count(4);
    }

    long digest() {
        List<Long> values = new ArrayList<>();
        for (int what = 0; what <= 9; what++) {
            values.add((long) count(what));
        }
        for (int which = 0; which <= 1; which++) {
            for (int what = 0; what <= 6; what++) {
                values.add((long) triangulation(which, what));
            }
            for (int corner = 0; corner < now.n; corner++) {
                values.add((long) degree(which, corner));
            }
        }
        for (int what = 0; what <= 5; what++) {
            values.add((long) distance(what));
        }
        for (String diagonal : diagonals(now.n)) {
            values.add((long) other(0, low(diagonal), high(diagonal)));
            values.add((long) other(1, low(diagonal), high(diagonal)));
            values.add((long) whyNot(low(diagonal), high(diagonal)));
            values.add((long) ifFlipped(low(diagonal), high(diagonal)));
        }
        values.add(Double.doubleToLongBits(farShare()));
        values.add((long) buffer.length());
        buffer.chars().forEach(code -> values.add((long) code));
        long hash = 2477;
        for (long value : values) {
            hash = 31 * hash + value;
        }
        return hash;
    }
}
