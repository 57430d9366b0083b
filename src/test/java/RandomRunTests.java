import java.util.ArrayList;
import java.util.List;
import java.util.Set;

/** Long runs of calls, each answer compared with that of the plain model. */
public final class RandomRunTests {
    private static final int RUNS = 60;
    private static final int CALLS = 512;

    private final Checks checks;
    private final FlipPolygons object = new FlipPolygons();
    private final PlainModel model = new PlainModel();
    private long seed;
    private int calls;

    private RandomRunTests(Checks checks, int run) {
        this.checks = checks;
        seed = 7919L * run + 17;
        checks.about("run " + run);
    }

    public static void main(String[] args) {
        Checks checks = new Checks();
        for (int run = 0; run < RUNS; run++) {
            new RandomRunTests(checks, run).run();
        }
        checks.end();
    }

    /** A number from 0 to below - 1; the same ones in every run of the tests. */
    private int below(int below) {
        seed = seed * 6364136223846793005L + 1442695040888963407L;
        return (int) Math.floorMod(seed >>> 33, (long) below);
    }

    private int from(int least, int most) {
        return least + below(most - least + 1);
    }

    private void run() {
        if (below(4) > 0) {
            int n = from(4, 9);
            compare("begin(" + n + ")", () -> object.begin(n), () -> model.begin(n));
        }
        while (calls < CALLS) {
            callOne();
        }
    }

    private void compare(String name, Checks.Call got, Checks.Call want) {
        if (calls >= CALLS) {
            return;
        }
        calls++;
        checks.due("call " + calls + ", " + name, Checks.outcome(got), Checks.outcome(want));
    }

    private int anyWhich() {
        return below(20) == 0 ? from(-2, 3) : below(2);
    }

    /** Two corners: mostly those of a diagonal, of the present triangulation or of any. */
    private int[] anyCorners() {
        int n = model.count(0);
        if (below(8) == 0) {
            return new int[] {from(-1, n), from(-1, n)};
        }
        List<String> all = PlainModel.diagonals(n);
        String diagonal = all.get(below(all.size()));
        for (int tries = 0; tries < 20 && below(5) > 0; tries++) {
            if (model.whyNot(diagonal.charAt(0) - '0', diagonal.charAt(1) - '0') != 1) {
                break;
            }
            diagonal = all.get(below(all.size()));
        }
        return new int[] {diagonal.charAt(0) - '0', diagonal.charAt(1) - '0'};
    }

    private void callOne() {
        switch (below(3)) {
            case 0:
                change();
                break;
            case 1:
                changeOther();
                break;
            default:
                look();
                break;
        }
    }

    private void change() {
        int which = anyWhich();
        int[] at = anyCorners();
        int kind = below(12);
        if (kind < 5) {
            compare("flip(" + which + ", " + at[0] + ", " + at[1] + ")",
                    () -> object.flip(which, at[0], at[1]), () -> model.flip(which, at[0], at[1]));
        } else if (kind < 8) {
            boolean is = below(3) > 0;
            compare("lock(" + at[0] + ", " + at[1] + ", " + is + ")",
                    () -> object.lock(at[0], at[1], is), () -> model.lock(at[0], at[1], is));
        } else if (kind < 10) {
            int flips = below(3) == 0 ? from(-1, 22) : from(1, 3);
            compare("walk(" + flips + ")", () -> object.walk(flips), () -> model.walk(flips));
        } else if (kind < 11) {
            int corner = from(-1, model.count(0));
            compare("fan(" + which + ", " + corner + ")",
                    () -> object.fan(which, corner), () -> model.fan(which, corner));
        } else {
            text();
        }
    }

    private void changeOther() {
        int which = anyWhich();
        int snapshot = below(8) == 0 ? from(-1, 2) : below(2);
        int kind = below(20);
        if (kind < 3) {
            int k = below(6) == 0 ? from(-1, 10) : from(0, 8);
            compare("turn(" + which + ", " + k + ")",
                    () -> object.turn(which, k), () -> model.turn(which, k));
        } else if (kind < 5) {
            compare("mirror(" + which + ")", () -> object.mirror(which), () -> model.mirror(which));
        } else if (kind < 7) {
            compare("exchange()", object::exchange, model::exchange);
        } else if (kind < 8) {
            int n = from(2, 11);
            compare("begin(" + n + ")", () -> object.begin(n), () -> model.begin(n));
        } else if (kind < 10) {
            compare("take(" + snapshot + ")",
                    () -> object.take(snapshot), () -> model.take(snapshot));
        } else if (kind < 12) {
            compare("restore(" + snapshot + ")",
                    () -> object.restore(snapshot), () -> model.restore(snapshot));
        } else if (kind < 15) {
            compare("undo()", object::undo, model::undo);
        } else {
            text();
        }
    }

    /** Appends the text of a triangulation, at times with a fault in it, and mostly reads it. */
    private void text() {
        if (below(3) > 0) {
            compare("clearBuffer()", object::clearBuffer, model::clearBuffer);
        }
        int n = below(10) == 0 ? from(4, 9) : model.count(0);
        List<Set<String>> all = new ArrayList<>(PlainModel.graph(n).keySet());
        List<String> told = new ArrayList<>(all.get(below(all.size())));
        List<String> diagonals = PlainModel.diagonals(n);
        if (below(5) == 0) {
            told.set(below(told.size()), diagonals.get(below(diagonals.size())));
        }
        StringBuilder text = new StringBuilder(String.join(",", told));
        if (below(5) == 0) {
            text.setCharAt(below(text.length()), (char) (below(2) == 0 ? '0' + below(10) : 30 + below(99)));
        }
        if (below(8) == 0) {
            text.setLength(below(text.length() + 1));
        } else if (below(8) == 0) {
            text.append(',').append(told.get(0));
        }
        for (int at = 0; at < text.length(); at++) {
            int code = text.charAt(at);
            compare("append(" + code + ")", () -> object.append(code), () -> model.append(code));
        }
        compare("firstError()", object::firstError, model::firstError);
        int which = anyWhich();
        if (below(6) > 0) {
            compare("read(" + which + ")", () -> object.read(which), () -> model.read(which));
        }
    }

    private void look() {
        int which = anyWhich();
        int[] at = anyCorners();
        int what = from(-1, 10);
        int corner = from(-1, model.count(0));
        String corners = at[0] + ", " + at[1] + ")";
        switch (below(10)) {
            case 0:
                compare("number(" + corners,
                        () -> object.number(at[0], at[1]), () -> model.number(at[0], at[1]));
                break;
            case 1:
                compare("triangulation(" + which + ", " + what + ")",
                        () -> object.triangulation(which, what),
                        () -> model.triangulation(which, what));
                break;
            case 2:
                compare("degree(" + which + ", " + corner + ")",
                        () -> object.degree(which, corner), () -> model.degree(which, corner));
                break;
            case 3:
                compare("other(" + which + ", " + corners,
                        () -> object.other(which, at[0], at[1]),
                        () -> model.other(which, at[0], at[1]));
                break;
            case 4:
                compare("whyNot(" + corners,
                        () -> object.whyNot(at[0], at[1]), () -> model.whyNot(at[0], at[1]));
                break;
            case 5:
                compare("distance(" + what + ")",
                        () -> object.distance(what), () -> model.distance(what));
                break;
            case 6:
                compare("ifFlipped(" + corners,
                        () -> object.ifFlipped(at[0], at[1]), () -> model.ifFlipped(at[0], at[1]));
                break;
            case 7:
                compare("count(" + what + ")", () -> object.count(what), () -> model.count(what));
                break;
            case 8:
                compare("farShare()", () -> Double.doubleToRawLongBits(object.farShare()),
                        () -> Double.doubleToRawLongBits(model.farShare()));
                break;
            default:
                compare("digest()", object::digest, model::digest);
                break;
        }
    }
}
