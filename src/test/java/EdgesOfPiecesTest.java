/** Promises 15 to 22, each sentence that names an edge, under that sentence. */
public final class EdgesOfPiecesTest extends Checks {
    private static final String REFUSED = "A call that is refused answers one of BAD, NO, FULL, OFF, "
        + "of several the one that stands first here, and changes nothing";
    private static final int[] NO_PIECES = {-1, 3, 40, LOWEST, HIGHEST};

    public static void main(String[] args) {
        isOfNumbers();
        kinds();
        kindsOfPlace();
        about();
        atNumbers();
        atEnds();
        overNumbers();
        overTouching();
        overSideBySide();
        overByAGrain();
        overByLess();
        overWithoutCorners();
        findBounds();
        findWhere();
        findLeast();
        coversNumbers();
        coversWithin();
        coversOver();
        coversAreas();
        coversFirst();
        sums();
        sumOrder();
        sumEnds();
        refusedAll();
        Due.end();
    }

    private static ScissorsBench triangle() {
        return begun(1, 0, 0, 4, 0, 0, 3);
    }

    // ---- promise 15

    private static void isOfNumbers() {
        says(15, "Whether a PIECE is of a KIND: 1, 0. BAD.");
        int[] noKinds = {-1, 5, LOWEST, HIGHEST};
        for (int kind : noKinds) {
            due("kind " + kind, triangle().isOf(0, kind), BAD);
        }
        for (int piece : NO_PIECES) {
            due("piece " + piece, strips(3).isOf(piece, 0), BAD);
            due("piece " + piece + ", kind 4", strips(3).isOf(piece, 4), BAD);
        }
        due("piece 0 of none", new ScissorsBench().isOf(0, 0), BAD);
        due("kind 0", triangle().isOf(0, 0), 1);
        due("kind 4", triangle().isOf(0, 4), 0);
        due("piece 2 of 3", strips(3).isOf(2, 0), 1);
        due("piece 39 of 40", strips(40).isOf(39, 3), 1);
        due("piece 40 of 40", strips(40).isOf(40, 3), BAD);
    }

    private static void kinds() {
        says(15, "0 PIECE (all are); 1 TRIANGLE: its RING has three corners");
        dueKinds(triangle(), 0, 1, 1, 0, 0, 0);
        dueKinds(begun(1, ROUND), 0, 1, 0, 0, 0, 0);

        says(15, "2 SLAB: four, and two pairs of sides that face each other and are alike, turned about");
        dueKinds(begun(1, 0, 0, 4, 1, 6, 4, 2, 3), 0, 1, 0, 1, 0, 0);
        dueKinds(begun(1, 0, 0, 4, 1, 6, 5, 2, 3), 0, 1, 0, 0, 0, 0);
        dueKinds(begun(1, 0, 0, 4, 1, 7, 4, 2, 3), 0, 1, 0, 0, 0, 0);
        dueKinds(begun(1, 0, 0, 4, 1, 6, 4, 2, 4), 0, 1, 0, 0, 0, 0);
        dueKinds(begun(1, 0, 0, 4, 1, 6, 4, 1, 3), 0, 1, 0, 0, 0, 0);
        says(15, "2 SLAB: four, and two pairs of sides that face each other and are alike");
        dueKinds(begun(1, 0, 0, 8, 0, 6, 3, 2, 3), 0, 1, 0, 0, 0, 0);
        dueKinds(begun(1, 0, 0, 8, 0, 6, 3, 0, 3), 0, 1, 0, 0, 0, 0);
        dueKinds(begun(1, 0, 2, 3, 0, 3, 8, 0, 6), 0, 1, 0, 0, 0, 0);
        dueKinds(begun(1, 0, 3, 2, 0, 4, 3, 2, 9), 0, 1, 0, 0, 0, 0);
        dueKinds(begun(1, 0, 0, 2, 0, 4, 2, 4, 4, 2, 4, 0, 2), 0, 1, 0, 0, 0, 0);
        dueKinds(begun(1, 0, 0, 4, 0, 5, 2, 4, 4, 0, 4), 0, 1, 0, 0, 0, 0);

        says(15, "3 UPRIGHT: a SLAB whose sides go along or up");
        dueKinds(box(4, 4), 0, 1, 0, 1, 1, 0);
        dueKinds(box(1, 100000), 0, 1, 0, 1, 1, 0);
        dueKinds(begun(1, 0, 0, 8, 0, 9, 3, 1, 3), 0, 1, 0, 1, 0, 0);
        dueKinds(begun(1, 0, 0, 3, 1, 3, 9, 0, 8), 0, 1, 0, 1, 0, 0);
        dueKinds(begun(1, 0, 2, 2, 0, 4, 2, 2, 4), 0, 1, 0, 1, 0, 0);
        dueKinds(begun(1, 0, 0, 100000, 1, 99999, 100000, -1, 99999), 0, 1, 0, 1, 0, 0);

        says(15, "4 SPARE: a TRIANGLE that is SPARE.");
        ScissorsBench bench = triangle();
        bench.aside(0, 1);
        dueKinds(bench, 0, 1, 1, 0, 0, 1);
        bench.aside(0, 0);
        dueKinds(bench, 0, 1, 1, 0, 0, 0);
    }

    private static void kindsOfPlace() {
        says(15, "(Its PLACE says which.)");
        ScissorsBench bench = triangle();
        bench.aside(0, 1);
        bench.half(0, 5, 6);
        dueKinds(bench, 0, 1, 1, 0, 0, 1);
        bench = begun(1, 0, 0, 4, 1, 6, 4, 2, 3);
        bench.half(0, -5, 6);
        dueKinds(bench, 0, 1, 0, 1, 0, 0);
        bench = box(5, 7);
        bench.slide(0, -9, 9);
        bench.half(0, 1, 2);
        dueKinds(bench, 0, 1, 0, 1, 1, 0);
        due("cut of it", bench.cut(0, -10, 1, -10), 1);
        dueKinds(bench, 0, 1, 0, 1, 1, 0);
        dueKinds(bench, 1, 1, 0, 1, 1, 0);
    }

    // ---- promise 16

    private static void about() {
        says(16, "what 0 how many corners, 1 twice its area, 2 TURN, 3 a, 4 b, 5 whether it is SPARE (1, 0). BAD.");
        ScissorsBench bench = triangle();
        long[] first = {3, 12, 1, 0, 0, 0};
        dueAbout(bench, first);
        bench.half(0, 7, -8);
        bench.aside(0, 1);
        long[] moved = {3, 12, -1, 7, -8, 1};
        dueAbout(bench, moved);
        int[] noWhats = {-1, 6, LOWEST, HIGHEST};
        for (int what : noWhats) {
            due("about(0, " + what + ")", bench.about(0, what), BAD);
        }
        for (int piece : NO_PIECES) {
            due("about(" + piece + ", 0)", strips(3).about(piece, 0), BAD);
            due("about(" + piece + ", 5)", strips(3).about(piece, 5), BAD);
        }
        due("piece 0 of none", new ScissorsBench().about(0, 0), BAD);
        due("piece 2 of 3", strips(3).about(2, 1), 152);
        due("piece 39 of 40", strips(40).about(39, 1), 4);
        due("piece 40 of 40", strips(40).about(40, 1), BAD);
        due("16 corners", begun(1, ROUND).about(0, 0), 16);
        due("the greatest area", begun(100000, -1, -1, 1, -1, 1, 1, -1, 1).about(0, 1), 80000000000L);
        due("the least area", begun(1, 0, 0, 1, 0, 0, 1).about(0, 1), 1);
        bench = begun(1, 99999, 99999, 100000, 99999, 99999, 100000);
        bench.half(0, 199999, 199999);
        due("the greatest a", bench.about(0, 3), 199999);
        bench = begun(1, 99999, 99999, 100000, 99999, 99999, 100000);
        bench.slide(0, 0, -199999);
        due("the least b", bench.about(0, 4), -199999);
    }

    private static void dueAbout(ScissorsBench bench, long[] want) {
        for (int what = 0; what < want.length; what++) {
            due("about(0, " + what + ")", bench.about(0, what), want[what]);
        }
    }

    // ---- promise 17

    private static void atNumbers() {
        says(17, "BAD: piece, i below 0, what.");
        ScissorsBench bench = strips(3);
        for (int piece : NO_PIECES) {
            due("piece " + piece, bench.at(piece, 0, 0), BAD);
        }
        int[] below = {-1, LOWEST};
        for (int i : below) {
            due("i " + i, bench.at(0, i, 0), BAD);
            due("i " + i + " of the ORIGIN", bench.at(0, i, 3), BAD);
        }
        int[] noWhats = {-1, 4, LOWEST, HIGHEST};
        for (int what : noWhats) {
            due("what " + what, bench.at(0, 0, what), BAD);
            due("BAD, not NONE: what " + what, bench.at(0, 4, what), BAD);
        }
        due("BAD, not NONE: piece 3", bench.at(3, 4, 0), BAD);
        due("piece 0 of none", new ScissorsBench().at(0, 0, 0), BAD);
        due("piece 2 of 3", bench.at(2, 0, 0), 2);
    }

    private static void atEnds() {
        says(17, "NONE: it has not so many.");
        for (int what = 0; what < 4; what++) {
            due("corner 2 of 3, what " + what, triangle().at(0, 2, what), what % 2 == 0 ? 0 : 3);
            due("corner 3 of 3, what " + what, triangle().at(0, 3, what), NONE);
            due("corner highest, what " + what, triangle().at(0, HIGHEST, what), NONE);
            due("corner 15 of 16, what " + what, begun(1, ROUND).at(0, 15, what), what % 2 == 0 ? -4 : 5);
            due("corner 16 of 16, what " + what, begun(1, ROUND).at(0, 16, what), NONE);
        }
        ScissorsBench bench = box(4, 4);
        bench.cut(0, 4, 4, 0);
        due("a corner that was there before", bench.at(0, 3, 0), NONE);
        bench = triangle();
        bench.half(0, 10, 20);
        says(17, "Corner i of the PLACE (what 0 x, 1 y) or the ORIGIN (2 x, 3 y) of a PIECE");
        dueCorners(bench, 0, 0, 6, 20, 10, 17, 10, 20);
        dueCorners(bench, 0, 2, 0, 0, 4, 0, 0, 3);
    }

    // ---- promise 18

    private static void overNumbers() {
        says(18, "BAD (the same one, too).");
        for (int piece : NO_PIECES) {
            due("piece " + piece, strips(3).over(piece, 0), BAD);
            due("other " + piece, strips(3).over(0, piece), BAD);
            due("both " + piece, strips(3).over(piece, piece), BAD);
        }
        due("0 and 0", strips(3).over(0, 0), BAD);
        due("2 and 2", strips(3).over(2, 2), BAD);
        due("0 and 1 of one", box(4, 4).over(0, 1), BAD);
        due("0 and 0 of none", new ScissorsBench().over(0, 0), BAD);
        due("0 and 2", strips(3).over(0, 2), 0);
        due("2 and 0", strips(3).over(2, 0), 0);
    }

    private static void dueOver(String told, ScissorsBench bench, long want) {
        due(told, bench.over(0, 1), want);
        due(told + ", the other way", bench.over(1, 0), want);
    }

    private static ScissorsBench twoSquares() {
        ScissorsBench bench = box(8, 4);
        bench.cut(4, 0, 4, 4);
        return bench;
    }

    private static ScissorsBench slid(ScissorsBench bench, int dx, int dy) {
        bench.slide(0, dx, dy);
        return bench;
    }

    private static void overTouching() {
        says(18, "Two PIECES LIE OVER one another, if some place (not of whole GRAINS alone) "
            + "is inside of both their PLACES.");
        dueOver("a side", slid(twoSquares(), 0, 0), 0);
        dueOver("a part of a side", slid(twoSquares(), 0, 1), 0);
        dueOver("a grain of a side", slid(twoSquares(), 0, -3), 0);
        dueOver("a corner", slid(twoSquares(), 0, 4), 0);
        dueOver("the side above", slid(twoSquares(), 4, 4), 0);
        dueOver("the side below", slid(twoSquares(), 4, -4), 0);
        dueOver("the side on the right", slid(twoSquares(), 8, 0), 0);
        dueOver("a grain apart", slid(twoSquares(), -1, 0), 0);
        dueOver("far apart", slid(twoSquares(), -100000, -100000), 0);
        ScissorsBench bench = box(4, 4);
        bench.cut(0, 2, 2, 4);
        bench.slide(0, 3, 2);
        dueOver("a corner on a side", bench, 0);
        bench = box(4, 4);
        bench.cut(0, 0, 4, 4);
        dueOver("a slanted side", bench, 0);
        bench.slide(0, 1, 1);
        dueOver("a part of a slanted side", bench, 0);
        bench.slide(0, 3, 3);
        dueOver("the end of a slanted side", bench, 0);
        bench.slide(0, 1, 1);
        dueOver("the line of a slanted side alone", bench, 0);
    }

    /** A corner of piece 0 comes to each side of piece 1, which alone parts them then, and goes a grain on. */
    private static void overSideBySide() {
        says(18, "some place (not of whole GRAINS alone) is inside of both their PLACES");
        Recipe pieces = () -> {
            ScissorsBench bench = box(4, 4);
            bench.cut(0, 2, 2, 4);
            dueCorners(bench, 1, 0, 0, 0, 4, 0, 4, 4, 2, 4, 0, 2);
            return bench;
        };
        int[][] ways = {{1, 2, 2, 0, 1}, {1, 6, 6, -1, 0}, {0, 3, 2, 0, -1}, {1, 1, 7, 1, -1}, {0, -2, -3, 1, 0}};
        for (int side = 0; side < ways.length; side++) {
            int[] way = ways[side];
            ScissorsBench bench = pieces.make();
            if (way[0] == 1) {
                bench.half(0, way[1], way[2]);
            } else {
                bench.slide(0, way[1], way[2]);
            }
            dueOver("a corner on side " + side, bench, 0);
            bench.slide(0, way[3], way[4]);
            dueOver("a corner through side " + side, bench, 1);
            bench.slide(0, -2 * way[3], -2 * way[4]);
            dueOver("a corner before side " + side, bench, 0);
        }
    }

    private static void overByAGrain() {
        says(18, "Two PIECES LIE OVER one another, if some place (not of whole GRAINS alone) "
            + "is inside of both their PLACES.");
        dueOver("a grain of the side", slid(twoSquares(), 1, 0), 1);
        dueOver("a grain of the corner", slid(twoSquares(), 1, 3), 1);
        dueOver("a grain of the other corner", slid(twoSquares(), 1, -3), 1);
        dueOver("a grain of the side above", slid(twoSquares(), 4, 3), 1);
        dueOver("a grain of the side on the right", slid(twoSquares(), 7, 0), 1);
        dueOver("on one another", slid(twoSquares(), 4, 0), 1);
        ScissorsBench bench = box(1, 1);
        bench.cut(0, 0, 1, 1);
        dueOver("a square of one grain, in two", bench, 0);
        bench.half(0, 1, 1);
        dueOver("the two on one another", bench, 1);
        bench = slid(twoSquares(), 4, 0);
        bench.cut(6, 0, 8, 2);
        due("count(0)", bench.count(0), 4);
        due("corners that are cut off alike", bench.over(2, 3), 1);
        due("that corner and the other square", bench.over(2, 1), 0);

        says(18, "Whether two PIECES LIE OVER one another (SPARE ones, too): 1, 0.");
        bench = box(4, 4);
        bench.cut(0, 0, 4, 4);
        bench.slide(0, 1, 0);
        bench.aside(0, 1);
        dueOver("a spare one", bench, 1);
        bench.aside(1, 1);
        dueOver("two spare ones", bench, 1);
    }

    private static void overByLess() {
        says(18, "some place (not of whole GRAINS alone) is inside of both their PLACES");
        ScissorsBench bench = box(1000, 1);
        bench.cut(0, 0, 1000, 1);
        dueOver("sides that nearly go along", bench, 0);
        bench.slide(0, 1, 0);
        dueOver("by a thousandth of a grain", bench, 1);
        bench.slide(0, -2, 0);
        dueOver("a thousandth of a grain apart", bench, 0);
        bench = box(50000, 3);
        bench.cut(0, 1, 50000, 2);
        bench.slide(0, -25001, 1);
        dueOver("a part of a grain apart, in the middle", bench, 0);
        bench.slide(0, 25002, -1);
        dueOver("by a part of a grain, in the middle", bench, 1);
        bench = begun(100000, -1, -1, 1, -1, 1, 1, -1, 1);
        bench.cut(-100000, -99999, 100000, 99999);
        dueOver("as large as can be", bench, 0);
        bench.half(0, 0, 0);
        dueOver("as large as can be, on one another", bench, 1);
    }

    private static void overWithoutCorners() {
        says(18, "some place (not of whole GRAINS alone) is inside of both their PLACES");
        ScissorsBench bench = box(12, 12);
        bench.cut(0, 9, 12, 9);
        bench.part(1, 3, 0, 0, 1);
        dueCorners(bench, 1, 0, 0, 0, 3, 0, 3, 9, 0, 9);
        bench.slide(0, -6, -6);
        dueOver("two that go across one another", bench, 1);
        bench.slide(0, 3, 6);
        dueOver("beside one another", bench, 0);
        bench = box(12, 12);
        bench.cut(0, 9, 12, 9);
        bench.part(0, 3, 0, 0, -1);
        dueCorners(bench, 2, 0, 0, 9, 3, 9, 3, 12, 0, 12);
        bench.slide(2, 3, -6);
        due("the smaller one in the larger one", bench.over(2, 1), 1);
        due("the larger one round the smaller one", bench.over(1, 2), 1);
        bench.slide(2, -3, -3);
        due("in its corner", bench.over(2, 1), 1);
        bench.slide(2, -3, 0);
        due("beside it", bench.over(2, 1), 0);
    }

    // ---- promise 19

    private static void findBounds() {
        says(19, "places are told in GRAINS, -100000 .. 100000");
        int[] out = {-100001, 100001, LOWEST, HIGHEST};
        Recipe all = () -> begun(100000, -1, -1, 1, -1, 1, 1, -1, 1);
        for (int number : out) {
            due("x " + number, all.make().find(number, 0), BAD);
            due("y " + number, all.make().find(0, number), BAD);
            due("x " + number + ", without pieces", new ScissorsBench().find(number, 0), BAD);
        }
        for (int x = -100000; x <= 100000; x += 200000) {
            for (int y = -100000; y <= 100000; y += 200000) {
                due("(" + x + ", " + y + ")", all.make().find(x, y), 0);
                due("(" + x + ", " + y + "), beside a piece", box(4, 4).find(x, y), NONE);
            }
        }
        due("without pieces", new ScissorsBench().find(0, 0), NONE);
    }

    private static void findWhere() {
        says(19, "inside of its PLACE or on its sides");
        ScissorsBench bench = begun(1, 0, 0, 6, 0, 0, 4);
        int[][] in = {{0, 0}, {6, 0}, {0, 4}, {3, 0}, {0, 2}, {3, 2}, {1, 1}, {2, 2}, {4, 1}};
        int[][] out = {{-1, 0}, {0, -1}, {7, 0}, {0, 5}, {3, 3}, {4, 2}, {5, 1}, {6, 1}, {-3, 6}, {9, -2}, {1, 4}};
        for (int[] place : in) {
            due("(" + place[0] + ", " + place[1] + ")", bench.find(place[0], place[1]), 0);
        }
        for (int[] place : out) {
            due("(" + place[0] + ", " + place[1] + ")", bench.find(place[0], place[1]), NONE);
        }
        bench.half(0, 0, 0);
        due("where it is", bench.find(-1, -1), 0);
        due("where it was", bench.find(1, 1), NONE);
        due("at its corner", bench.find(0, 0), 0);
    }

    private static void findLeast() {
        says(19, "The least PIECE (SPARE ones, too) that has a place (x, y)");
        ScissorsBench bench = strips(40);
        due("on the side of 0 and 1", bench.find(1, 1), 0);
        due("on the side of 38 and 39", bench.find(39, 1), 38);
        due("on the side of 39", bench.find(40, 1), 39);
        bench.slide(39, -39, 0);
        due("39 is on 0", bench.find(0, 1), 0);
        bench.slide(0, 0, 5);
        due("0 is away", bench.find(0, 1), 39);
        due("where 39 was", bench.find(40, 1), NONE);
        bench = box(4, 4);
        bench.cut(0, 0, 4, 4);
        bench.aside(0, 1);
        due("a spare one", bench.find(1, 3), 0);
        due("on the side of a spare one", bench.find(2, 2), 0);
        bench.aside(1, 1);
        due("another spare one", bench.find(3, 1), 1);
    }

    // ---- promise 20

    private static void coversNumbers() {
        says(20, "BAD; NO: it is MISSING.");
        int[] out = {-1, 5, LOWEST, HIGHEST};
        ScissorsBench bench = box(4, 4);
        told(bench, 4, 1, 0, 0, 4, 0, 4, 4, 0, 4);
        for (int k : out) {
            due("covers(" + k + ")", bench.covers(k), BAD);
        }
        due("covers(0)", bench.covers(0), 0);
        due("covers(4)", bench.covers(4), 0);
        due("covers(3)", bench.covers(3), NO);
        due("covers(3) without pieces", new ScissorsBench().covers(3), NO);
    }

    private static void coversWithin() {
        says(20, "1 + p: PIECE p is not within it (the least)");
        ScissorsBench bench = strips(40);
        due("within, on its sides", bench.covers(0), 0);
        bench.slide(39, 1, 0);
        due("the last one a grain to the right", bench.covers(0), 40);
        bench.back();
        bench.slide(0, -1, 0);
        due("the first one a grain to the left", bench.covers(0), 1);
        bench.slide(39, 1, 0);
        due("both", bench.covers(0), 1);
        bench.back();
        bench.slide(20, 0, 1);
        due("one a grain up", bench.covers(0), 21);
        bench.slide(20, 0, -2);
        due("one a grain down", bench.covers(0), 21);
        bench.slide(39, 0, -2);
        due("that one and the last", bench.covers(0), 21);

        bench = begun(1, 0, 0, 4, 0, 4, 4, 0, 4);
        told(bench, 1, 1, 0, 0, 4, 0, 4, 4, 1, 4);
        due("one corner outside", bench.covers(1), 1);
        says(20, "if all that are not SPARE lie within it (no corner outside)");
        bench = begun(1, 0, 2, 2, 0, 4, 2, 2, 4);
        int[][] within = {{1, 0, 4, 0, 4, 4, 1, 4}, {0, 1, 4, 1, 4, 4, 0, 4}, {0, 0, 3, 0, 3, 4, 0, 4},
            {0, 0, 4, 0, 4, 3, 0, 3}, {0, 0, 4, 0, 4, 4, 0, 4}};
        for (int i = 0; i < within.length; i++) {
            told(bench, 1, 1, within[i]);
            due("corner " + i + " of 4 outside by a grain", bench.covers(1), i < 4 ? 1 : 2000);
        }
        bench = box(4, 4);
        bench.cut(0, 0, 4, 4);
        told(bench, 1, 1, 0, 0, 4, 0, 4, 4);
        due("both within", bench.covers(0), 0);
        due("one of them outside", bench.covers(1), 1);
        bench.aside(0, 1);
        due("that one spare", bench.covers(1), 0);
        bench.slide(0, 100, 100);
        due("that one spare and far away", bench.covers(1), 0);
        bench.aside(0, 0);
        due("that one not spare", bench.covers(1), 1);
    }

    private static void coversOver() {
        says(20, "100 + 40 * p + q: PIECES p below q LIE OVER one another (the least p, then the least q)");
        ScissorsBench bench = strips(40);
        bench.slide(1, -1, 0);
        due("0 and 1", bench.covers(0), 101);
        bench.slide(1, 39, 0);
        due("1 and 39", bench.covers(0), 100 + 40 + 39);
        bench.back();
        bench.slide(39, -1, 0);
        due("38 and 39", bench.covers(0), 100 + 40 * 38 + 39);
        bench.slide(39, -38, 0);
        due("0 and 39", bench.covers(0), 139);
        bench.slide(2, -1, 0);
        due("0 and 39, 1 and 2", bench.covers(0), 139);
        bench.slide(38, -38, 0);
        due("0 and 38, 0 and 39, 1 and 2", bench.covers(0), 138);
        bench.back();
        bench.slide(30, -20, 0);
        bench.slide(9, 1, 0);
        due("9 and 10, 9 and 30, 10 and 30", bench.covers(0), 100 + 40 * 9 + 10);

        says(20, "if all that are not SPARE lie within it (no corner outside), no two of them LIE OVER one another");
        bench = box(4, 4);
        bench.cut(0, 0, 4, 4);
        bench.half(0, 4, 4);
        due("0 and 1", bench.covers(0), 101);
        bench.aside(0, 1);
        due("0 spare", bench.covers(0), 2000);
        bench.aside(0, 0);
        bench.aside(1, 1);
        due("1 spare", bench.covers(0), 2000);
        bench.aside(0, 1);
        due("both spare", bench.covers(0), 2000);
    }

    private static void coversAreas() {
        says(20, "and twice their AREAS together are twice that of the FIGURE");
        ScissorsBench bench = new ScissorsBench();
        told(bench, 0, 1, 0, 0, 4, 0, 0, 4);
        due("without pieces", bench.covers(0), 2000);
        says(20, "2000: the areas.");
        bench.begin(0);
        due("as large", bench.covers(0), 0);
        told(bench, 0, 1, 0, 0, 4, 0, 0, 5);
        due("the figure is larger", bench.covers(0), 2000);
        told(bench, 0, 100000, -1, -1, 1, -1, 1, 1, -1, 1);
        due("much larger", bench.covers(0), 2000);
        bench.begin(0);
        bench.cut(-100000, -100000, 100000, 100000);
        due("as large as can be", bench.covers(0), 0);
        due("a side at half a grain", bench.cut(100000, 99999, 99999, 100000), OFF);
        bench.cut(100000, 99998, 99998, 100000);
        due("count(0)", bench.count(0), 4);
        due("as large as can be, in four", bench.covers(0), 0);
        due("twice the area of 2", bench.about(2, 1), 2);
        bench.aside(2, 1);
        due("a grain of all is spare", bench.covers(0), 2000);
        bench = box(1, 1);
        bench.cut(0, 0, 1, 1);
        due("half a grain and half a grain", bench.covers(0), 0);
        bench.aside(1, 1);
        due("half a grain is spare", bench.covers(0), 2000);
    }

    private static void coversFirst() {
        says(20, "else the first that keeps them from that (of all p, then of all p and q)");
        ScissorsBench bench = strips(40);
        bench.slide(1, -1, 0);
        due("over, and the areas are right", bench.covers(0), 101);
        bench.slide(39, 1, 0);
        due("outside, though others before it lie over one another", bench.covers(0), 40);
        bench = box(8, 4);
        told(bench, 1, 1, 0, 0, 9, 0, 9, 9, 0, 9);
        bench.cut(4, 0, 4, 4);
        bench.slide(1, -1, 0);
        due("over, and the areas are not right", bench.covers(1), 101);
        bench.slide(1, 7, 0);
        due("outside, and the areas are not right", bench.covers(1), 2);
        bench.slide(1, -6, 0);
        due("the areas", bench.covers(1), 2000);
    }

    // ---- promise 21

    private static void sums() {
        says(21, "How many directions have a sum that is not 0.");
        due("without pieces", new ScissorsBench().sums(), 0);
        due("all sums are 0", box(4, 9).sums(), 0);
        due("16 corners, all sums are 0", begun(1, ROUND).sums(), 0);
        due("three", triangle().sums(), 3);
        ScissorsBench bench = begun(1, 0, 0, 5, 0, 4, 3, 1, 3);
        due("sides along that are not alike", bench.sums(), 3);
        due("sides along that are alike but for a grain", begun(1, 0, 0, 5, 0, 5, 3, 1, 3).sums(), 3);
        due("15 of 16 corners", begun(1, java.util.Arrays.copyOf(ROUND, 30)).sums(), 3);
        due("one of 8 sides cut off", begun(1, 0, 0, 3, 0, 3, 3, 1, 3, 0, 2).sums(), 3);

        says(21, "each side of the PLACE of a PIECE that is not SPARE");
        bench = triangle();
        bench.aside(0, 1);
        due("a spare one", bench.sums(), 0);
        bench.aside(0, 0);
        due("not spare", bench.sums(), 3);
        bench = box(4, 3);
        bench.cut(0, 0, 4, 3);
        due("both", bench.sums(), 0);
        bench.aside(1, 1);
        due("one of both", bench.sums(), 3);
        bench.half(0, 4, 3);
        dueSums(bench, 0, 1, 3, 1, 0, 4, 4, 3, -1);
        bench.back();
        dueSums(bench, 0, 1, -3, 1, 0, -4, 4, 3, 1);
    }

    // ---- promise 22

    private static void sumOrder() {
        says(22, "g times a step (s, t) with no common divisor");
        dueSums(begun(1, 0, 0, 12, 0, 6, 8), 1, 0, 12, 3, -4, -2, 3, 4, -2);
        dueSums(begun(1, 0, 0, 5, 0, 0, 7), 0, 1, -7, 1, 0, 5, 5, -7, -1);
        dueSums(begun(100000, -1, -1, 1, -1, -1, 1), 0, 1, -200000, 1, -1, -200000, 1, 0, 200000);
        dueSums(begun(1, -100000, -100000, 100000, 99999, -100000, 100000),
            0, 1, -200000, 200000, -1, -1, 200000, 199999, 1);
        dueSums(begun(6, 0, 0, 3, 2, -2, 3), 2, -3, 6, 3, 2, 6, 5, -1, -6);

        says(22, "if s is above 0, or is 0 and t above 0, g is added to the sum of the direction (s, t), "
            + "else taken from that of (- s, - t)");
        dueSums(begun(1, 0, 0, 3, 0, 3, 5), 0, 1, 5, 1, 0, 3, 3, 5, -1);
        dueSums(begun(1, 0, 0, 3, 5, 0, 5), 0, 1, -5, 1, 0, -3, 3, 5, 1);
        dueSums(begun(1, 0, 5, 3, 0, 3, 5), 0, 1, 5, 1, 0, -3, 3, -5, 1);

        says(22, "Those directions whose sum is not 0 are in order by s, then by t.");
        dueSums(begun(1, 0, 0, 5, 0, 4, 3, 1, 3), 1, -3, -1, 1, 0, 2, 1, 3, -1);
        dueSums(begun(1, 0, 0, 3, -2, 6, 0, 3, 9), 1, -3, -3, 1, 3, -3, 3, -2, 1, 3, 2, 1);
        dueSums(begun(1, 0, 0, 4, -3, 5, 0, 4, 4, 1, 4), 1, -4, -1, 1, 0, -3, 1, 3, 1, 1, 4, -1, 4, -3, 1);

        says(22, "sums of sides by directions that no cut or slide changes");
        ScissorsBench bench = begun(1, 0, 0, 12, 0, 6, 8);
        bench.cut(3, 4, 9, 4);
        bench.cut(6, 0, 6, 8);
        bench.slide(0, 50, 50);
        bench.slide(1, -50, 7);
        due("count(0)", bench.count(0), 4);
        dueSums(bench, 1, 0, 12, 3, -4, -2, 3, 4, -2);

        says(22, "Of direction i of those: what 0 s, 1 t, 2 its sum.");
        bench = triangle();
        due("sum(1, 2), not asked for sums() before", bench.sum(1, 2), 4);
        bench.half(0, 0, 0);
        due("sum(1, 2), not asked for sums() behind the turn", bench.sum(1, 2), -4);
        bench.undo();
        due("sum(1, 2), not asked for sums() behind undo()", bench.sum(1, 2), 4);
        bench.aside(0, 1);
        due("sum(1, 2), not asked for sums() behind aside()", bench.sum(1, 2), NONE);
    }

    private static void sumEnds() {
        says(22, "NONE: there are not so many. BAD: i below 0, what.");
        ScissorsBench bench = triangle();
        for (int what = 0; what < 3; what++) {
            due("sum(3, " + what + ") of 3", bench.sum(3, what), NONE);
            due("sum(highest, " + what + ") of 3", bench.sum(HIGHEST, what), NONE);
            due("sum(-1, " + what + ")", bench.sum(-1, what), BAD);
            due("sum(lowest, " + what + ")", bench.sum(LOWEST, what), BAD);
            due("sum(0, " + what + ") of none", new ScissorsBench().sum(0, what), NONE);
            due("sum(0, " + what + ") of sums that are 0", box(4, 4).sum(0, what), NONE);
        }
        dueSums(bench, 0, 1, -3, 1, 0, 4, 4, -3, -1);
        int[] noWhats = {-1, 3, LOWEST, HIGHEST};
        for (int what : noWhats) {
            due("what " + what, bench.sum(0, what), BAD);
            due("BAD, not NONE: what " + what, bench.sum(3, what), BAD);
            due("what " + what + " without pieces", new ScissorsBench().sum(0, what), BAD);
        }
    }

    // ---- all of them

    private static void refusedAll() {
        says(15, REFUSED);
        refused("isOf(0, 5)", Checks::busy, b -> b.isOf(0, 5), BAD);
        says(16, REFUSED);
        refused("about(0, 6)", Checks::busy, b -> b.about(0, 6), BAD);
        says(17, REFUSED);
        refused("at(0, -1, 0)", Checks::busy, b -> b.at(0, -1, 0), BAD);
        refused("at(0, 4, 0)", Checks::busy, b -> b.at(0, 4, 0), NONE);
        says(18, REFUSED);
        refused("over(1, 1)", Checks::busy, b -> b.over(1, 1), BAD);
        says(19, REFUSED);
        refused("find(0, 100001)", Checks::busy, b -> b.find(0, 100001), BAD);
        refused("find(50, 50)", Checks::busy, b -> b.find(50, 50), NONE);
        says(20, REFUSED);
        refused("covers(5)", Checks::busy, b -> b.covers(5), BAD);
        refused("covers(3)", Checks::busy, b -> b.covers(3), NO);
        says(22, REFUSED);
        refused("sum(-1, 0)", Checks::busy, b -> b.sum(-1, 0), BAD);
        refused("sum(99, 0)", Checks::busy, b -> b.sum(99, 0), NONE);
    }
}
