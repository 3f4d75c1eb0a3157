import java.util.Map;
import java.util.TreeMap;

/**
 * Runs of all calls, as long as an object is used and the same each time, each answer against the one of PlainBench.
 * Arguments: how many runs, and the number of the first.
 */
public final class ModelTest {
    private static final int RUNS = 1000;
    private static final int CALLS = 512;

    private static final String[] NAMES = {"corner", "figure", "area", "begin", "cut", "part", "slide", "half", "join",
        "aside", "back", "undo", "redo", "isOf", "about", "at", "over", "find", "covers", "sums", "sum", "shelve",
        "fetch", "third", "count"};

    /** How often each call is made, of all, and what its answers have to have been, in all runs. */
    private static final int[] OFTEN = {0, 3, 2, 2, 14, 40, 20, 20, 36, 10, 3, 9, 6, 6, 4, 4, 12, 8, 16, 2, 4, 7, 3,
        12, 4};
    private static final String[] ANSWERS = {"BAD FULL more", "BAD NO more", "BAD NO more", "BAD NO 0",
        "BAD FULL OFF 0 more", "BAD NO FULL OFF more", "BAD 0", "BAD 0", "BAD NO FULL more", "BAD NO 0 more", "0 more",
        "NO 0 more", "NO 0 more", "BAD 0 more", "BAD less 0 more", "BAD NONE less 0 more", "BAD 0 more",
        "BAD NONE 0 more", "BAD NO 0 outside over areas", "0 more", "BAD NONE less 0 more", "BAD 0 more",
        "BAD NO 0 more", "BAD NO FULL OFF 0 more", "BAD 0 more"};

    private static final int[][] SHAPES = {
        {0, 0, 4, 0, 4, 4, 0, 4}, {0, 0, 8, 0, 8, 2, 0, 2}, {0, 0, 2, 0, 2, 8, 0, 8}, {0, 0, 3, 0, 4, 2, 1, 2},
        {1, 0, 2, 0, 3, 1, 3, 2, 2, 3, 1, 3, 0, 2, 0, 1}, {0, 0, 6, 0, 3, 3}, {0, 0, 6, 0, 0, 6},
        {0, 0, 1, 0, 3, 1, 4, 2, 5, 4, 5, 5, 4, 7, 3, 8, 1, 9, 0, 9, -2, 8, -3, 7, -4, 5, -4, 4, -3, 2, -2, 1}};

    private static final Map<String, Integer> SEEN = new TreeMap<>();

    private long state;
    private int grid;
    // In a calm run pieces seldom move, so that they can be joined; in a crowded one they become many. In
    // a square one there are boxes alone, so that what is in two of them is whole.
    private boolean calm;
    private boolean crowded;
    private boolean square;
    private ScissorsBench bench;
    private PlainBench plain;
    private StringBuilder run;
    private int calls;
    private boolean wasUndone;

    public static void main(String[] args) {
        int runs = args.length > 0 ? Integer.parseInt(args[0]) : RUNS;
        int first = args.length > 1 ? Integer.parseInt(args[1]) : 1;
        for (int seed = first; seed < first + runs; seed++) {
            if (!new ModelTest().agrees(seed)) {
                System.exit(1);
            }
        }
        for (int call = 0; call < NAMES.length; call++) {
            for (String answer : ANSWERS[call].split(" ")) {
                String seen = NAMES[call] + " " + answer;
                Due.due("times of " + seen, Math.min(SEEN.getOrDefault(seen, 0), 1), 1);
            }
        }
        if (args.length > 0) {
            System.out.println(SEEN);
        }
        Due.end();
    }

    private int below(int bound) {
        state = state * 6364136223846793005L + 1442695040888963407L;
        return (int) ((state >>> 33) % bound);
    }

    private boolean agrees(int seed) {
        state = seed * 7919L;
        for (int i = 0; i < 8; i++) {
            below(2);
        }
        grid = new int[] {1, 2, 12, 12, 24, 60, 5000, 9973}[below(8)];
        calm = below(2) == 0;
        crowded = below(3) == 0;
        square = below(3) == 0;
        bench = new ScissorsBench();
        plain = new PlainBench();
        run = new StringBuilder();
        int all = 0;
        for (int often : OFTEN) {
            all += often;
        }
        for (int k = 0; k < 4; k++) {
            if (!tellFigure()) {
                return false;
            }
        }
        if (crowded && !(tellBox() && cutUp() && same(21, 0, 0, 0, 0, 0) && cutUp())) {
            return false;
        }
        for (int i = 1; calls < CALLS; i++) {
            int pick = below(all);
            int call = 0;
            while (pick >= OFTEN[call]) {
                pick -= OFTEN[call];
                call++;
            }
            if (wasUndone && below(3) > 0) {
                call = 11 + below(2);
            } else if (plain.count(0) == 0 && below(4) > 0) {
                call = new int[] {3, 3, 11, 22}[below(4)];
            } else if (calm && (call == 6 || call == 7 || call == 23) && below(8) > 0) {
                call = 5;
            } else if (crowded && plain.count(0) < 25 && below(12) > 0
                    && (call == 3 || call == 8 || call == 11 || call == 22)) {
                call = 4;
            }
            wasUndone = call == 11 || call == 12;
            if (!(call == 1 ? tellFigure() : makeCall(call)) || (i % 16 == 0 && !sameCounts())
                    || (i % 8 == 0 && !samePiece(piece()))) {
                return false;
            }
        }
        return true;
    }

    /** Tells a shape, now and then spoilt, as one of the figures; sometimes more corners than there is room for. */
    private boolean tellFigure() {
        int[] shape = SHAPES[below(square ? 3 : SHAPES.length)];
        int n = shape.length / 2;
        int first = below(n);
        boolean turned = below(2) == 0;
        boolean flipped = below(2) == 0;
        int dx = below(5) - 2;
        int dy = below(5) - 2;
        int told = below(12) == 0 ? below(19) : n;
        int step = below(12) == 0 ? 2 + below(2) : 1;
        int spoilt = below(10) == 0 ? below(n) : -1;
        for (int i = 0; i < told; i++) {
            int c = (first + i * step) % n;
            c = turned ? n - 1 - c : c;
            int x = (shape[2 * c + (flipped ? 1 : 0)] + dx) * grid + (spoilt == i ? below(3) - 1 : 0);
            int y = (shape[2 * c + (flipped ? 0 : 1)] + dy) * grid;
            if (!same(0, below(60) == 0 ? wild() : x, y, 0, 0, 0)) {
                return false;
            }
        }
        return same(1, below(12) == 0 ? wild() : below(3), 0, 0, 0, 0);
    }

    private boolean tellBox() {
        int side = 8 * grid;
        return same(1, 4, 0, 0, 0, 0) && same(0, 0, 0, 0, 0, 0) && same(0, side, 0, 0, 0, 0)
            && same(0, side, side, 0, 0, 0) && same(0, 0, side, 0, 0, 0) && same(1, 4, 0, 0, 0, 0);
    }

    /** Cuts the box at nine lines of the grid, along, up or, in a run that is not square, aslant. */
    private boolean cutUp() {
        boolean same = same(3, 4, 0, 0, 0, 0);
        for (int i = 0; i < 9 && same; i++) {
            int at = (1 + below(7)) * grid;
            int way = below(square ? 2 : 3);
            same = way == 0 ? same(4, at, 0, at, grid, 0)
                : way == 1 ? same(4, 0, at, grid, at, 0) : same(4, at, 0, 0, at, 0);
        }
        return same;
    }

    private int wild() {
        int[] wild = {-1, 4, 5, 6, 40, 100001, -100001, 200001, Integer.MIN_VALUE, Integer.MAX_VALUE, 1001, 0};
        return wild[below(wild.length)];
    }

    private int piece() {
        return below(Math.max(1, (int) plain.count(0)));
    }

    /** A number near the figures, most often a corner of the grid. */
    private int near() {
        int cell = below(14) - 4;
        return below(8) == 0 ? cell * grid + below(grid + 1) : cell * grid;
    }

    private int step() {
        return (below(7) - 3) * (below(4) == 0 ? 2 : 1);
    }

    private boolean makeCall(int call) {
        int[] with = arguments(call);
        if (below(30) == 0) {
            with[below(3)] = wild();
        }
        return same(call, with[0], with[1], with[2], with[3], with[4]);
    }

    private int[] arguments(int call) {
        int p = piece();
        switch (NAMES[call]) {
            case "cut":
                return cutting();
            case "part":
                return parting(p);
            case "begin":
                return new int[] {below(3), 0, 0, 0, 0};
            case "slide":
                return sliding(p);
            case "half":
                return turning(p);
            case "aside":
                return new int[] {p, below(2), 0, 0, 0};
            case "isOf":
                return new int[] {p, below(5), 0, 0, 0};
            case "about":
                return new int[] {p, below(6), 0, 0, 0};
            case "at":
                return new int[] {p, below(8), below(4), 0, 0};
            case "find":
                return finding(p);
            case "sum":
                return new int[] {below(4), below(3), 0, 0, 0};
            case "count":
                return new int[] {below(7), 0, 0, 0, 0};
            case "join":
                return new int[] {p, below(4) == 0 ? piece() : plain.beside(p), 0, 0, 0};
            case "over":
                return new int[] {p, piece(), 0, 0, 0};
            case "fetch":
            case "shelve":
            case "third":
                return new int[] {below(3), 0, 0, 0, 0};
            default:
                return new int[] {below(4), 0, 0, 0, 0};
        }
    }

    /** A corner of the one piece comes to one of the other, or it goes anywhere. */
    private int[] sliding(int p) {
        int[] from = corner(p);
        int[] to = corner(piece());
        return below(3) == 0 ? new int[] {p, step() * grid, step() * grid, 0, 0}
            : new int[] {p, to[0] - from[0], to[1] - from[1], 0, 0};
    }

    private int[] turning(int p) {
        int[] from = corner(p);
        int[] to = corner(below(2) == 0 ? p : piece());
        return below(3) == 0 ? new int[] {p, near(), near(), 0, 0}
            : new int[] {p, to[0] + from[0], to[1] + from[1], 0, 0};
    }

    private int[] finding(int p) {
        int[] one = corner(p);
        int[] other = corner(p);
        return below(3) == 0 ? new int[] {near(), near(), 0, 0, 0}
            : new int[] {(one[0] + other[0]) / 2, (one[1] + other[1]) / 2, 0, 0, 0};
    }

    private int[] corner(int p) {
        int n = (int) plain.about(p, 0);
        int i = n > 0 ? below(n) : 0;
        return n > 0 ? new int[] {(int) plain.at(p, i, 0), (int) plain.at(p, i, 1)} : new int[] {0, 0};
    }

    private int[] cutting() {
        int[] corner = corner(piece());
        boolean far = below(4) == 0;
        int x = far ? near() : corner[0] + below(3) * grid;
        int y = far ? near() : corner[1] + below(3) * grid;
        int dx = below(3) == 0 ? 0 : step();
        int dy = below(3) == 0 ? 0 : step();
        if (square) {
            return dx == 0 ? new int[] {x, y, x, y + grid, 0} : new int[] {x, y, x - grid, y, 0};
        }
        if (below(4) == 0) {
            x += grid / 2;
            y += grid / 4;
        }
        return below(2) == 0 ? new int[] {x, y, x + dx * grid, y + dy * grid, 0}
            : new int[] {x, y, near(), near(), 0};
    }

    /** Through two corners of the piece, or middles of its sides, or anyhow. */
    private int[] parting(int p) {
        int n = (int) plain.about(p, 0);
        if (square) {
            int up = below(2);
            int[] corner = corner(p);
            return new int[] {p, corner[0] + grid, corner[1] + grid, up, 1 - up};
        }
        if (n < 0 || below(4) == 0) {
            return new int[] {p, near(), near(), step(), step()};
        }
        int i = below(n);
        boolean corner = below(2) == 0;
        int[] from = middle(p, i, corner || below(2) == 0, n);
        int[] to = middle(p, corner ? (i + 1) % n : below(n), corner || below(2) == 0, n);
        int dx = to[0] - from[0];
        int dy = to[1] - from[1];
        int most = Math.max(1, Math.max(Math.abs(dx), Math.abs(dy)));
        int by = most > 1000 ? grid : 1;
        return new int[] {p, from[0], from[1], dx / by, dy / by};
    }

    private int[] middle(int p, int i, boolean ofSide, int n) {
        int j = ofSide ? (i + 1) % n : i;
        return new int[] {(int) (plain.at(p, i, 0) + plain.at(p, j, 0)) / 2,
            (int) (plain.at(p, i, 1) + plain.at(p, j, 1)) / 2};
    }

    private boolean sameCounts() {
        boolean same = same(19, 0, 0, 0, 0, 0);
        for (int what = 0; what < 7 && same; what++) {
            same = same(24, what, 0, 0, 0, 0);
        }
        int i = below((int) plain.sums() + 1);
        return same && same(20, i, 0, 0, 0, 0) && same(20, i, 1, 0, 0, 0) && same(20, i, 2, 0, 0, 0);
    }

    private boolean samePiece(int p) {
        boolean same = true;
        for (int what = 0; what < 6 && same; what++) {
            same = same(14, p, what, 0, 0, 0);
        }
        for (int i = 0; i < plain.about(p, 0) && same; i++) {
            same = same(15, p, i, 0, 0, 0) && same(15, p, i, 1, 0, 0) && same(15, p, i, 2, 0, 0)
                && same(15, p, i, 3, 0, 0);
        }
        return same;
    }

    private boolean same(int call, int a, int b, int c, int d, int e) {
        if (calls == CALLS) {
            return true;
        }
        calls++;
        run.append(NAMES[call]).append(' ').append(a).append(' ').append(b).append(' ').append(c).append(' ').append(d)
            .append(' ').append(e);
        long want = ofPlain(call, a, b, c, d, e);
        long got = ofBench(call, a, b, c, d, e);
        String told = Due.told(want);
        run.append(" : ").append(told).append('\n');
        SEEN.merge(NAMES[call] + " " + kindOf(NAMES[call], want, told), 1, Integer::sum);
        if (got != want) {
            System.out.print(run);
            System.out.println("it answered " + Due.told(got));
        }
        return got == want;
    }

    private static String kindOf(String name, long answer, String told) {
        if (Character.isLetter(told.charAt(0))) {
            return told;
        }
        if (name.equals("covers") && answer > 0) {
            return answer < 100 ? "outside" : answer < 2000 ? "over" : "areas";
        }
        return answer == 0 ? "0" : answer > 0 ? "more" : "less";
    }

    private long ofBench(int call, int a, int b, int c, int d, int e) {
        switch (NAMES[call]) {
            case "corner": return bench.corner(a, b);
            case "figure": return bench.figure(a);
            case "area": return bench.area(a);
            case "begin": return bench.begin(a);
            case "cut": return bench.cut(a, b, c, d);
            case "part": return bench.part(a, b, c, d, e);
            case "slide": return bench.slide(a, b, c);
            case "half": return bench.half(a, b, c);
            case "join": return bench.join(a, b);
            case "aside": return bench.aside(a, b);
            case "back": return bench.back();
            case "undo": return bench.undo();
            case "redo": return bench.redo();
            case "isOf": return bench.isOf(a, b);
            case "about": return bench.about(a, b);
            case "at": return bench.at(a, b, c);
            case "over": return bench.over(a, b);
            case "find": return bench.find(a, b);
            case "covers": return bench.covers(a);
            case "sums": return bench.sums();
            case "sum": return bench.sum(a, b);
            case "shelve": return bench.shelve(a);
            case "fetch": return bench.fetch(a);
            case "third": return bench.third(a);
            default: return bench.count(a);
        }
    }

    private long ofPlain(int call, int a, int b, int c, int d, int e) {
        switch (NAMES[call]) {
            case "corner": return plain.corner(a, b);
            case "figure": return plain.figure(a);
            case "area": return plain.area(a);
            case "begin": return plain.begin(a);
            case "cut": return plain.cut(a, b, c, d);
            case "part": return plain.part(a, b, c, d, e);
            case "slide": return plain.slide(a, b, c);
            case "half": return plain.half(a, b, c);
            case "join": return plain.join(a, b);
            case "aside": return plain.aside(a, b);
            case "back": return plain.back();
            case "undo": return plain.undo();
            case "redo": return plain.redo();
            case "isOf": return plain.isOf(a, b);
            case "about": return plain.about(a, b);
            case "at": return plain.at(a, b, c);
            case "over": return plain.over(a, b);
            case "find": return plain.find(a, b);
            case "covers": return plain.covers(a);
            case "sums": return plain.sums();
            case "sum": return plain.sum(a, b);
            case "shelve": return plain.shelve(a);
            case "fetch": return plain.fetch(a);
            case "third": return plain.third(a);
            default: return plain.count(a);
        }
    }
}
