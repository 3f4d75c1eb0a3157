/** Promises 1 to 5, each sentence that names an edge, under that sentence. */
public final class EdgesOfFiguresTest extends Checks {
    private static final int[] SQUARE = {0, 0, 4, 0, 4, 4, 0, 4};
    private static final int[] TRIANGLE = {0, 0, 3, 0, 0, 3};

    public static void main(String[] args) {
        newObject();
        cornerBounds();
        cornerCounts();
        cornerRefused();
        figureAnyhow();
        figureFirstCorner();
        figureCounts();
        figureEmptiesHand();
        figureNumbers();
        figureTooFew();
        figureBent();
        figureBentByAGrain();
        figureAlike();
        figureTwiceRound();
        figureRefused();
        area();
        begin();
        calls();
        Due.end();
    }

    // ---- promise 1

    private static void newObject() {
        says(1, "No FIGURES, no PIECES, no corners in hand.");
        ScissorsBench bench = new ScissorsBench();
        for (int what = 0; what <= 6; what++) {
            due("count(" + what + ")", bench.count(what), 0);
        }
        due("isOf(0, 0)", bench.isOf(0, 0), BAD);
        due("at(0, 0, 0)", bench.at(0, 0, 0), BAD);
        due("find(0, 0)", bench.find(0, 0), NONE);
        due("figure(0)", bench.figure(0), NO);
        due("corner(0, 0)", bench.corner(0, 0), 1);

        says(1, "FIGURES 0 .. 4 are each MISSING (at first) or a RING.");
        for (int k = 0; k <= 4; k++) {
            due("area(" + k + ")", new ScissorsBench().area(k), NO);
            due("begin(" + k + ")", new ScissorsBench().begin(k), NO);
            due("covers(" + k + ")", new ScissorsBench().covers(k), NO);
        }

        says(1, "SHELVES 0 .. 3 have each a PLAN, or none");
        for (int k = 0; k <= 3; k++) {
            due("fetch(" + k + ")", new ScissorsBench().fetch(k), NO);
            due("third(" + k + ")", new ScissorsBench().third(k), NO);
        }

        says(1, "undo() takes back the latest one that is kept");
        due("undo()", new ScissorsBench().undo(), NO);
        due("redo()", new ScissorsBench().redo(), NO);
    }

    // ---- promise 2

    private static void cornerBounds() {
        says(2, "places are told in GRAINS, -100000 .. 100000");
        int[] in = {-100000, -99999, 0, 99999, 100000};
        int[] out = {-100001, 100001, -200000, 200000, LOWEST, HIGHEST};
        for (int number : in) {
            due("corner(" + number + ", 0)", new ScissorsBench().corner(number, 0), 1);
            due("corner(0, " + number + ")", new ScissorsBench().corner(0, number), 1);
        }
        for (int number : out) {
            due("corner(" + number + ", 0)", new ScissorsBench().corner(number, 0), BAD);
            due("corner(0, " + number + ")", new ScissorsBench().corner(0, number), BAD);
            due("corner(" + number + ", " + number + ")", new ScissorsBench().corner(number, number), BAD);
        }
        for (int x = -100000; x <= 100000; x += 200000) {
            for (int y = -100000; y <= 100000; y += 200000) {
                due("corner(" + x + ", " + y + ")", new ScissorsBench().corner(x, y), 1);
            }
        }
    }

    private static void cornerCounts() {
        says(2, "A corner comes behind those in hand: how many there are.");
        ScissorsBench bench = new ScissorsBench();
        for (int i = 0; i < 16; i++) {
            due("corner " + (i + 1), bench.corner(ROUND[2 * i], ROUND[2 * i + 1]), i + 1);
            due("count(1)", bench.count(1), i + 1);
        }

        says(2, "BAD; FULL: there are 16.");
        due("corner 17", bench.corner(0, 0), FULL);
        due("corner 17 again", bench.corner(-9, 9), FULL);
        due("count(1)", bench.count(1), 16);
        due("the 16 are there as told", bench.figure(0), 16);
        due("their area", bench.area(0), 118);
        due("corner 1 behind figure()", bench.corner(0, 0), 1);

        says(2, "of several the one that stands first here");
        bench = new ScissorsBench();
        for (int i = 0; i < 16; i++) {
            bench.corner(0, 0);
        }
        due("BAD, not FULL", bench.corner(100001, 0), BAD);
        due("BAD, not FULL, by y", bench.corner(0, -100001), BAD);
    }

    private static void cornerRefused() {
        says(2, "A call that is refused answers one of BAD, NO, FULL, OFF, "
            + "of several the one that stands first here, and changes nothing");
        refused("corner(100001, 0)", Checks::busy, b -> b.corner(100001, 0), BAD);
        refused("corner(0, -100001)", Checks::busy, b -> b.corner(0, -100001), BAD);
        refused("corner 17", EdgesOfFiguresTest::sixteenInHand, b -> b.corner(5, 5), FULL);
        refused("corner 17, beyond the bounds", EdgesOfFiguresTest::sixteenInHand, b -> b.corner(HIGHEST, 5), BAD);
    }

    private static ScissorsBench sixteenInHand() {
        ScissorsBench bench = box(4, 4);
        for (int i = 0; i < 32; i += 2) {
            bench.corner(ROUND[i], ROUND[i + 1]);
        }
        return bench;
    }

    // ---- promise 3

    /** The corners begun at one of them, told the one or the other way round. */
    private static int[] turned(int[] corners, int first, boolean backwards) {
        int n = corners.length / 2;
        int[] told = new int[2 * n];
        for (int i = 0; i < n; i++) {
            int c = (first + (backwards ? n - i : i)) % n;
            told[2 * i] = corners[2 * c];
            told[2 * i + 1] = corners[2 * c + 1];
        }
        return told;
    }

    private static void figureAnyhow() {
        says(3, "told either way round, begun anywhere");
        int[][] rings = {TRIANGLE, SQUARE, {-3, -2, 5, -4, 6, 1, 0, 7, -3, 3}, turned(ROUND, 13, false)};
        for (int[] ring : rings) {
            for (int first = 0; first < ring.length / 2; first++) {
                for (int way = 0; way < 2; way++) {
                    ScissorsBench bench = new ScissorsBench();
                    due("figure(2) begun at " + first + ", way " + way,
                        told(bench, 2, 1, turned(ring, first, way == 1)), ring.length / 2);
                    bench.begin(2);
                    dueCorners(bench, 0, 2, ring);
                    dueCorners(bench, 0, 0, ring);
                }
            }
        }
    }

    private static void figureFirstCorner() {
        says(3, "its first one being the least (by x, then by y)");
        ScissorsBench bench = new ScissorsBench();
        told(bench, 0, 1, 1, 0, 5, 1, 0, 9);
        bench.begin(0);
        dueCorners(bench, 0, 0, 0, 9, 1, 0, 5, 1);
        told(bench, 0, 1, 4, 0, 0, 4, 0, -4);
        bench.begin(0);
        dueCorners(bench, 0, 0, 0, -4, 4, 0, 0, 4);
    }

    private static void figureCounts() {
        says(3, "A RING is 3 to 16 corners");
        due("2 corners", told(new ScissorsBench(), 0, 1, 0, 0, 4, 0), NO);
        due("3 corners", told(new ScissorsBench(), 0, 1, TRIANGLE), 3);
        due("4 corners", told(new ScissorsBench(), 0, 1, SQUARE), 4);
        due("15 corners", told(new ScissorsBench(), 0, 1, java.util.Arrays.copyOf(ROUND, 30)), 15);
        due("16 corners", told(new ScissorsBench(), 0, 1, ROUND), 16);
        due("16 corners, as large as can be", told(new ScissorsBench(), 0, 11111, ROUND), 16);
    }

    private static void figureEmptiesHand() {
        says(3, "none are in hand then (also if it is refused as NO; FIGURE k stays then)");
        ScissorsBench bench = new ScissorsBench();
        due("figure(1)", told(bench, 1, 1, TRIANGLE), 3);
        due("count(1) behind a RING", bench.count(1), 0);
        due("figure(1) of none", bench.figure(1), NO);
        due("area(1)", bench.area(1), 9);
        due("figure(1) of no RING", told(bench, 1, 1, 0, 0, 5, 0, 9, 0), NO);
        due("count(1) behind NO", bench.count(1), 0);
        due("area(1)", bench.area(1), 9);
        due("count(2)", bench.count(2), 1);
        due("figure(2) of no RING", told(bench, 2, 1, 0, 0, 5, 0, 9, 0), NO);
        due("area(2): MISSING still", bench.area(2), NO);
        for (int i = 0; i < 16; i++) {
            bench.corner(i, 0);
        }
        due("figure(1) of 16 in a line", bench.figure(1), NO);
        due("corner(0, 0): there is room again", bench.corner(0, 0), 1);
        bench.begin(1);
        dueCorners(bench, 0, 2, TRIANGLE);
        due("figure(1) told anew", told(bench, 1, 1, 4, 0, 4, 4, 0, 4), 4);
        due("area(1)", bench.area(1), 32);
    }

    private static void figureNumbers() {
        says(3, "BAD: k; NO: they are no RING");
        ScissorsBench bench = new ScissorsBench();
        due("figure(0)", told(bench, 0, 1, TRIANGLE), 3);
        due("figure(4)", told(bench, 4, 1, SQUARE), 4);
        due("area(0)", bench.area(0), 9);
        due("area(4)", bench.area(4), 32);
        int[] out = {-1, 5, LOWEST, HIGHEST};
        for (int k : out) {
            due("figure(" + k + ")", told(bench, k, 1, 0, 0), BAD);
        }
        due("count(1): BAD leaves the hand", bench.count(1), 4);

        says(3, "of several the one that stands first here");
        bench = new ScissorsBench();
        bench.corner(1, 1);
        due("BAD, not NO", bench.figure(5), BAD);
        due("count(1)", bench.count(1), 1);
    }

    /** Begun anywhere, told either way: NO each time. */
    private static void dueNoRing(String what, int... corners) {
        for (int first = 0; first < corners.length / 2; first++) {
            for (int way = 0; way < 2; way++) {
                ScissorsBench bench = new ScissorsBench();
                told(bench, 0, 1, TRIANGLE);
                String how = what + ", begun at " + first + ", way " + way;
                due(how, told(bench, 0, 1, turned(corners, first, way == 1)), NO);
                due(how + ": count(1)", bench.count(1), 0);
                due(how + ": area(0)", bench.area(0), 9);
            }
        }
    }

    private static void figureTooFew() {
        says(3, "less than 3, inward or straight corners, alike ones, or going round more than once");
        due("none", new ScissorsBench().figure(0), NO);
        dueNoRing("one corner", 3, 4);
        dueNoRing("two corners", 3, 4, 7, 8);
        dueNoRing("two corners, alike", 3, 4, 3, 4);
    }

    private static void figureBent() {
        says(3, "less than 3, inward or straight corners, alike ones, or going round more than once");
        dueNoRing("an inward corner", 0, 0, 8, 0, 2, 2, 0, 8);
        dueNoRing("an inward corner that is the least", -1, 3, 4, 0, 1, 3, 4, 6);
        dueNoRing("two inward corners", 0, 0, 4, 1, 8, 0, 8, 4, 4, 3, 0, 4);
        dueNoRing("a straight corner", 0, 0, 2, 0, 4, 0, 4, 4, 0, 4);
        dueNoRing("a straight corner up", 0, 0, 4, 0, 4, 1, 4, 4, 0, 4);
        dueNoRing("a straight corner aslant", 0, 0, 6, 0, 4, 2, 0, 6);
        dueNoRing("a straight corner on the left", 0, 0, 4, 0, 4, 4, 0, 4, 0, 3);
        dueNoRing("three in a line", 0, 0, 1, 2, 2, 4);
        dueNoRing("four in a line", 0, 0, 1, 0, 3, 0, 2, 0);
        dueNoRing("to and fro in a line", 0, 0, 4, 0, 2, 0, 0, 4);
        dueNoRing("sides that cross", 0, 0, 4, 4, 4, 0, 0, 4);
        dueNoRing("sides that cross, more to the one side", 0, 0, 8, 0, 8, 8, 3, -2);
        int[] straight = java.util.Arrays.copyOf(ROUND, 32);
        straight[2] = 1;
        straight[4] = 2;
        straight[5] = 0;
        dueNoRing("16 corners, one of them straight", straight);
    }

    private static void figureBentByAGrain() {
        says(3, "without inward or straight corners");
        ScissorsBench bench = new ScissorsBench();
        due("outward by a grain", told(bench, 0, 1, -100000, 0, 0, -1, 100000, 0, 0, 100000), 4);
        due("straight", told(bench, 0, 1, -100000, 0, 0, 0, 100000, 0, 0, 100000), NO);
        due("inward by a grain", told(bench, 0, 1, -100000, 0, 0, 1, 100000, 0, 0, 100000), NO);
        due("outward by as little as can be",
            told(bench, 0, 1, -100000, -100000, 0, -1, 99999, 99998, -100000, 100000), 4);
        due("outward by as little, from end to end",
            told(bench, 0, 1, -100000, -100000, 1, 0, 100000, 100000, -100000, 100000), 4);
        due("straight from end to end",
            told(bench, 0, 1, -100000, -100000, 0, 0, 100000, 100000, -100000, 100000), NO);
        due("inward by as little, from end to end",
            told(bench, 0, 1, -100000, -100000, -1, 0, 100000, 100000, -100000, 100000), NO);

        says(3, "It has an inside.");
        due("the least inside", told(bench, 1, 1, -100000, -100000, 0, -1, 99999, 99997), 3);
        due("area(1)", bench.area(1), 1);
        due("none", told(bench, 1, 1, -100000, -100000, 0, 0, 100000, 100000), NO);
        due("area(1)", bench.area(1), 1);
    }

    private static void figureAlike() {
        says(3, "less than 3, inward or straight corners, alike ones, or going round more than once");
        dueNoRing("alike ones one behind the other", 0, 0, 4, 0, 4, 0, 4, 4, 0, 4);
        dueNoRing("a triangle and one corner again", 0, 0, 3, 0, 0, 3, 0, 3);
        dueNoRing("alike ones apart", 0, 0, 4, 0, 2, 2, 4, 4, 0, 4, 2, 2);
        dueNoRing("alike ones all", 1, 1, 1, 1, 1, 1);
        dueNoRing("each twice", 0, 0, 0, 0, 3, 0, 3, 0, 0, 3, 0, 3);
        dueNoRing("two places", 0, 0, 3, 0, 0, 0, 3, 0);
    }

    private static void figureTwiceRound() {
        says(3, "less than 3, inward or straight corners, alike ones, or going round more than once");
        dueNoRing("a star of five", 0, 3, -2, -3, 3, 1, -3, 1, 2, -3);
        dueNoRing("a triangle twice", 0, 0, 4, 0, 0, 4, 0, 0, 4, 0, 0, 4);
        dueNoRing("two triangles, the one in the other", 0, 0, 20, 0, 0, 20, 1, 1, 17, 1, 1, 17);
        int[] star = new int[30];
        for (int i = 0; i < 15; i++) {
            star[2 * i] = ROUND[4 * i % 30];
            star[2 * i + 1] = ROUND[(4 * i + 1) % 30];
        }
        dueNoRing("15 corners twice round", star);
        for (int i = 0; i < 15; i++) {
            star[2 * i] = ROUND[8 * i % 30];
            star[2 * i + 1] = ROUND[(8 * i + 1) % 30];
        }
        dueNoRing("15 corners four times round", star);
    }

    private static void figureRefused() {
        says(3, "A call that is refused answers one of BAD, NO, FULL, OFF, "
            + "of several the one that stands first here, and changes nothing");
        refused("figure(-1)", Checks::busy, b -> b.figure(-1), BAD);
        refused("figure(5)", Checks::busy, b -> b.figure(5), BAD);
        says(3, "(but, where told, the corners in hand)");
        Recipe emptied = () -> {
            ScissorsBench bench = busy();
            bench.figure(3);
            return bench;
        };
        refused("figure(0) of none", emptied, b -> b.figure(0), NO);
        refused("figure(0) of no RING", emptied, b -> told(b, 0, 1, 0, 0, 1, 1, 2, 2), NO);
        refused("figure(2) of no RING", emptied, b -> told(b, 2, 1, 0, 0, 1, 1, 2, 2), NO);
    }

    // ---- promise 4

    private static void area() {
        says(4, "Twice the area of FIGURE k.");
        ScissorsBench bench = new ScissorsBench();
        told(bench, 0, 1, 0, 0, 1, 0, 0, 1);
        due("the least", bench.area(0), 1);
        told(bench, 0, 1, 0, 1, 1, 0, 0, 0);
        due("the least, told with the clock", bench.area(0), 1);
        told(bench, 4, 100000, 1, 1, 1, -1, -1, -1, -1, 1);
        due("the greatest", bench.area(4), 80000000000L);
        told(bench, 4, 1, 99999, 99999, 100000, 99999, 100000, 100000, 99999, 100000);
        due("far from the middle", bench.area(4), 2);
        told(bench, 4, 1, -100000, -100000, -99999, -100000, -99999, -99999);
        due("far from the middle, below it", bench.area(4), 1);

        says(4, "TWICE THE AREA of a RING is the sum of x * y' - x' * y of its corners and the next ones.");
        told(bench, 4, 1, -3, 5, 2, 1, 7, 8);
        due("three corners", bench.area(4), 55);
        due("16 corners", told(bench, 4, 1, ROUND) + bench.area(4), 134);

        says(4, "BAD; NO: it is MISSING.");
        int[] out = {-1, 5, LOWEST, HIGHEST};
        for (int k : out) {
            due("area(" + k + ")", bench.area(k), BAD);
        }
        due("area(3)", bench.area(3), NO);
        refused("area(3)", Checks::busy, b -> b.area(3), NO);
        refused("area(5)", Checks::busy, b -> b.area(5), BAD);
        leavesAll("area(0)", Checks::busy, b -> b.area(0));
    }

    // ---- promise 5

    private static void begin() {
        says(5, "FIGURE k alone is PIECE 0, its MOVE 1 and (0, 0): 0.");
        ScissorsBench bench = strips(40);
        told(bench, 4, 1, 1, 1, 4, 2, 2, 5);
        due("begin(4) behind 40 pieces", bench.begin(4), 0);
        due("count(0)", bench.count(0), 1);
        dueCorners(bench, 0, 0, 1, 1, 4, 2, 2, 5);
        dueMove(bench, 0, 1, 0, 0);
        due("isOf(1, 0)", bench.isOf(1, 0), BAD);
        bench.half(0, 3, 3);
        bench.aside(0, 1);
        due("begin(4) behind a spare one that is moved", bench.begin(4), 0);
        dueMove(bench, 0, 1, 0, 0);
        dueCorners(bench, 0, 2, 1, 1, 4, 2, 2, 5);
        due("begin(0)", bench.begin(0), 0);
        due("about(0, 1)", bench.about(0, 1), 160);

        says(5, "A PIECE is SPARE (put aside) or not (at first).");
        told(bench, 1, 1, TRIANGLE);
        bench.begin(1);
        bench.aside(0, 1);
        bench.begin(1);
        due("about(0, 5)", bench.about(0, 5), 0);

        says(5, "BAD; NO: it is MISSING.");
        int[] out = {-1, 5, LOWEST, HIGHEST};
        for (int k : out) {
            due("begin(" + k + ")", bench.begin(k), BAD);
        }
        due("begin(3)", bench.begin(3), NO);
        refused("begin(3)", Checks::busy, b -> b.begin(3), NO);
        refused("begin(2), with corners in hand", Checks::busy, b -> b.begin(2), NO);
        refused("begin(-1)", Checks::busy, b -> b.begin(-1), BAD);
        refused("begin(5)", Checks::busy, b -> b.begin(5), BAD);
    }

    // ---- the whole object

    private static void calls() {
        says(1, "An object is used for at most 512 calls after it has been made");
        ScissorsBench bench = new ScissorsBench();
        for (int call = 1; call <= 510; call++) {
            bench.corner(call, 0);
        }
        due("call 511", bench.corner(0, 0), FULL);
        due("call 512", bench.count(1), 16);
        bench = strips(40);
        bench.shelve(0);
        for (int call = 47; call <= 510; call++) {
            bench.third(0);
        }
        due("call 511", bench.third(0), 40);
        due("call 512", bench.count(3), 6);
    }
}
