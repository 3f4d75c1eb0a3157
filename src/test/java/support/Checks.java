import java.util.ArrayList;
import java.util.List;

/** What the tests by hand share: benches in some states, and answers told with the promise that they hold to. */
class Checks {
    static final long BAD = Due.BAD;
    static final long NO = Due.NO;
    static final long FULL = Due.FULL;
    static final long OFF = Due.OFF;
    static final long NONE = Due.NONE;

    static final int LOWEST = Integer.MIN_VALUE;
    static final int HIGHEST = Integer.MAX_VALUE;

    /** 16 corners; four times these are whole at many cuts. */
    static final int[] ROUND = {0, 0, 1, 0, 3, 1, 4, 2, 5, 4, 5, 5, 4, 7, 3, 8, 1, 9, 0, 9, -2, 8, -3, 7,
        -4, 5, -4, 4, -3, 2, -2, 1};

    private static final int FIGURES = 5;
    private static final int SHELVES = 4;

    private static String held = "";

    /** A way to make a bench, the same each time. */
    interface Recipe {
        ScissorsBench make();
    }

    interface Call {
        long on(ScissorsBench bench);
    }

    /** The answers behind this one hold to a promise. */
    static void holds(int promise) {
        held = "promise " + promise + ": ";
    }

    /** The answers behind this one hold to a sentence of the document that binds a promise's call. */
    static void says(int promise, String sentence) {
        held = "promise " + promise + ", \"" + sentence + "\": ";
    }

    static void due(String call, long got, long want) {
        Due.due(held + call, got, want);
    }

    // ---- benches

    static long told(ScissorsBench bench, int k, int scale, int... corners) {
        for (int i = 0; i < corners.length; i += 2) {
            bench.corner(corners[i] * scale, corners[i + 1] * scale);
        }
        return bench.figure(k);
    }

    static ScissorsBench begun(int scale, int... corners) {
        ScissorsBench bench = new ScissorsBench();
        told(bench, 0, scale, corners);
        bench.begin(0);
        return bench;
    }

    static ScissorsBench box(int width, int height) {
        return begun(1, 0, 0, width, 0, width, height, 0, height);
    }

    /** A box of 40 by 2 in so many pieces: all but the last are strips one wide, in order from the left. */
    static ScissorsBench strips(int pieces) {
        ScissorsBench bench = box(40, 2);
        for (int x = 1; x < pieces; x++) {
            bench.cut(x, 0, x, 2);
        }
        return bench;
    }

    /** Something of all: figures, plans, three pieces (one moved, one spare), changes both ways, corners in hand. */
    static ScissorsBench busy() {
        ScissorsBench bench = new ScissorsBench();
        told(bench, 0, 1, 0, 0, 8, 0, 8, 4, 0, 4);
        told(bench, 1, 1, 0, 0, 4, 0, 4, 8, 0, 8);
        told(bench, 4, 1, 0, 0, 6, 0, 0, 6);
        bench.shelve(3);
        bench.begin(0);
        bench.cut(4, 0, 4, 4);
        bench.shelve(0);
        bench.part(1, 4, 0, 1, 1);
        bench.slide(0, -4, 0);
        bench.half(1, 16, 4);
        bench.aside(2, 1);
        bench.slide(2, 0, 5);
        bench.slide(2, 5, 0);
        bench.undo();
        bench.undo();
        bench.corner(1, 2);
        bench.corner(7, 2);
        bench.corner(1, 5);
        return bench;
    }

    // ---- answers of many calls

    /** Corners of the place (what 0) or of the origin (what 2) of a piece. */
    static void dueCorners(ScissorsBench bench, int piece, int what, int... corners) {
        due("about(" + piece + ", 0)", bench.about(piece, 0), corners.length / 2);
        for (int i = 0; i < corners.length; i++) {
            due("at(" + piece + ", " + i / 2 + ", " + (what + i % 2) + ")",
                bench.at(piece, i / 2, what + i % 2), corners[i]);
        }
    }

    static void dueMove(ScissorsBench bench, int piece, int turn, int a, int b) {
        due("TURN of " + piece, bench.about(piece, 2), turn);
        due("a of " + piece, bench.about(piece, 3), a);
        due("b of " + piece, bench.about(piece, 4), b);
    }

    static void dueSums(ScissorsBench bench, int... want) {
        due("sums()", bench.sums(), want.length / 3);
        for (int i = 0; i < want.length; i++) {
            due("sum(" + i / 3 + ", " + i % 3 + ")", bench.sum(i / 3, i % 3), want[i]);
        }
    }

    static void dueKinds(ScissorsBench bench, int piece, int... kinds) {
        for (int kind = 0; kind < kinds.length; kind++) {
            due("isOf(" + piece + ", " + kind + ")", bench.isOf(piece, kind), kinds[kind]);
        }
    }

    // ---- what a call leaves as it was

    /** A refused call answers as is due, and the bench tells the same then as one that it was not made on. */
    static void refused(String told, Recipe recipe, Call call, long want) {
        for (int way = 0; way < 5; way++) {
            ScissorsBench with = recipe.make();
            due(told, call.on(with), want);
            dueSame(told + " leaves all, way " + way, seen(with, way), seen(recipe.make(), way));
        }
    }

    /** As refused(), of a call that only asks. */
    static void leavesAll(String told, Recipe recipe, Call call) {
        refused(told, recipe, call, call.on(recipe.make()));
    }

    /** A CHANGE is counted, taken back and done again, with all pieces as they were before it and behind it. */
    static void takenBack(String told, Recipe recipe, Call change) {
        ScissorsBench bench = recipe.make();
        List<Long> before = pieces(bench);
        long kept = Math.min(bench.count(3) + 1, 6);
        due(told + " is not refused", change.on(bench) >= 0 ? 0 : 1, 0);
        List<Long> behind = pieces(bench);
        due(told + ": count(3)", bench.count(3), kept);
        due(told + ": count(4)", bench.count(4), 0);
        due(told + ": redo()", bench.redo(), NO);
        due(told + ": undo()", bench.undo(), kept - 1);
        dueSame(told + " is taken back", pieces(bench), before);
        due(told + ": count(4), taken back", bench.count(4), 1);
        due(told + ": redo()", bench.redo(), 0);
        dueSame(told + " is done again", pieces(bench), behind);
        due(told + ": count(3), done again", bench.count(3), kept);
    }

    private static List<Long> pieces(ScissorsBench bench) {
        List<Long> all = new ArrayList<>();
        seePieces(bench, all);
        return all;
    }

    private static void dueSame(String told, List<Long> got, List<Long> want) {
        due(told + ": as much to see", got.size(), want.size());
        for (int i = 0; i < Math.min(got.size(), want.size()); i++) {
            due(told + ": answer " + i, got.get(i), want.get(i));
        }
    }

    /** All answers that tell one of: the table now, what is in hand, what was, what comes again, the plans. */
    private static List<Long> seen(ScissorsBench bench, int way) {
        List<Long> all = new ArrayList<>();
        switch (way) {
            case 0:
                seeTable(bench, all);
                break;
            case 1:
                all.add(bench.figure(2));
                all.add(bench.area(2));
                all.add(bench.begin(2));
                seePieces(bench, all);
                break;
            case 2:
                for (long kept = 0; kept >= 0; all.add(kept)) {
                    kept = bench.undo();
                    seePieces(bench, all);
                }
                break;
            case 3:
                for (long more = 0; more >= 0; all.add(more)) {
                    more = bench.redo();
                    seePieces(bench, all);
                }
                break;
            default:
                for (int k = 0; k < SHELVES; k++) {
                    all.add(bench.fetch(k));
                    seePieces(bench, all);
                }
        }
        return all;
    }

    private static void seeTable(ScissorsBench bench, List<Long> all) {
        for (int what = 0; what <= 6; what++) {
            all.add(bench.count(what));
        }
        for (int k = 0; k < FIGURES; k++) {
            all.add(bench.area(k));
            all.add(bench.covers(k));
        }
        all.add(bench.sums());
        seePieces(bench, all);
    }

    /** All pieces, but of many only those at the ends: an object is used for 512 calls. */
    private static void seePieces(ScissorsBench bench, List<Long> all) {
        int pieces = (int) bench.count(0);
        all.add((long) pieces);
        for (int p = 0; p < pieces; p++) {
            if (pieces > 4 && p >= 1 && p < pieces - 2) {
                continue;
            }
            for (int what = 0; what <= 5; what++) {
                all.add(bench.about(p, what));
            }
            long corners = bench.about(p, 0);
            for (int i = 0; i < corners; i++) {
                all.add(bench.at(p, i, 0));
                all.add(bench.at(p, i, 1));
            }
        }
    }
}
