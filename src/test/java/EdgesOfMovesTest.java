/** Promises 8 to 12, each sentence that names an edge, under that sentence. */
public final class EdgesOfMovesTest extends Checks {
    private static final String REFUSED = "A call that is refused answers one of BAD, NO, FULL, OFF, "
        + "of several the one that stands first here, and changes nothing";
    private static final int[] NO_PIECES = {-1, 3, 40, LOWEST, HIGHEST};
    private static final int[] TOO_FAR = {-200001, 200001, LOWEST, HIGHEST};

    public static void main(String[] args) {
        slideNumbers();
        slideBounds();
        slideTurned();
        slideRefused();
        halfNumbers();
        halfBounds();
        halfTwice();
        halfRefused();
        joinPieces();
        joinSameMove();
        joinCommonSide();
        joinInward();
        joinStraight();
        joinNumbers();
        joinFull();
        joinFirstReason();
        joinRefused();
        aside();
        asideRefused();
        back();
        Due.end();
    }

    // ---- promise 8

    private static void slideNumbers() {
        says(8, "A PIECE goes by (dx, dy), each -200000 .. 200000: 0.");
        due("nowhere", box(4, 4).slide(0, 0, 0), 0);
        ScissorsBench bench = begun(1, -100000, -100000, -99999, -100000, -100000, -99999);
        due("as far right as a piece can go", bench.slide(0, 199999, 0), 0);
        due("as far up as a piece can go", bench.slide(0, 0, 199999), 0);
        dueCorners(bench, 0, 0, 99999, 99999, 100000, 99999, 99999, 100000);
        dueMove(bench, 0, 1, 199999, 199999);
        due("as far left and down as a piece can go", bench.slide(0, -199999, -199999), 0);
        dueMove(bench, 0, 1, 0, 0);

        says(8, "BAD: also if a corner would be beyond the bounds.");
        due("dx 200000", bench.slide(0, 200000, 0), BAD);
        due("dy 200000", bench.slide(0, 0, 200000), BAD);
        bench = begun(1, 99999, 99999, 100000, 99999, 100000, 100000);
        due("dx -200000", bench.slide(0, -200000, 0), BAD);
        due("dy -200000", bench.slide(0, 0, -200000), BAD);

        says(8, "BAD, as for slide()");
        for (int far : TOO_FAR) {
            due("dx " + far, box(4, 4).slide(0, far, 0), BAD);
            due("dy " + far, box(4, 4).slide(0, 0, far), BAD);
            due("dx and dy " + far, box(4, 4).slide(0, far, far), BAD);
        }
        says(8, "numbered from 0");
        for (int piece : NO_PIECES) {
            due("piece " + piece, strips(3).slide(piece, 0, 0), BAD);
        }
        due("piece 0", strips(3).slide(0, 1, 0), 0);
        due("piece 2", strips(3).slide(2, 1, 0), 0);
        due("piece 39 of 40", strips(40).slide(39, 1, 0), 0);
        due("piece 40 of 40", strips(40).slide(40, 1, 0), BAD);
        due("piece 0 of none", new ScissorsBench().slide(0, 0, 0), BAD);
    }

    private static void slideBounds() {
        says(8, "BAD: also if a corner would be beyond the bounds.");
        // One corner alone comes to each bound.
        ScissorsBench bench = begun(1, 0, 2, 2, 0, 4, 2, 2, 4);
        due("to the left bound", bench.slide(0, -100000, 0), 0);
        due("beyond it", bench.slide(0, -1, 0), BAD);
        due("and up again", bench.slide(0, -1, 1), BAD);
        due("back from it", bench.slide(0, 100000, 0), 0);
        due("beyond it at once", bench.slide(0, -100001, 0), BAD);
        due("to the right bound", bench.slide(0, 99996, 0), 0);
        due("beyond it", bench.slide(0, 1, 0), BAD);
        bench.back();
        due("beyond it at once", bench.slide(0, 99997, 0), BAD);
        due("to the lower bound", bench.slide(0, 0, -100000), 0);
        due("beyond it", bench.slide(0, 0, -1), BAD);
        due("along it", bench.slide(0, 5, 0), 0);
        bench.back();
        due("beyond it at once", bench.slide(0, 0, -100001), BAD);
        due("to the upper bound", bench.slide(0, 0, 99996), 0);
        due("beyond it", bench.slide(0, 0, 1), BAD);
        dueMove(bench, 0, 1, 0, 99996);
        bench.back();
        due("beyond it at once", bench.slide(0, 0, 99997), BAD);
        due("as large as the bounds", begun(100000, -1, -1, 1, -1, 1, 1).slide(0, 0, 1), BAD);
        due("as large as the bounds, nowhere", begun(100000, -1, -1, 1, -1, 1, 1).slide(0, 0, 0), 0);
    }

    private static void slideTurned() {
        says(8, "a place (x, y) of the ORIGIN comes to (TURN * x + a, TURN * y + b)");
        ScissorsBench bench = begun(1, 0, 0, 4, 0, 0, 3);
        bench.half(0, 0, 0);
        bench.aside(0, 1);
        due("slide of a turned one", bench.slide(0, 7, -2), 0);
        dueMove(bench, 0, -1, 7, -2);
        dueCorners(bench, 0, 0, 3, -2, 7, -5, 7, -2);
        dueCorners(bench, 0, 2, 0, 0, 4, 0, 0, 3);
        due("about(0, 5): spare still", bench.about(0, 5), 1);
        due("to the left bound", bench.slide(0, -100003, 0), 0);
        due("beyond it", bench.slide(0, -1, 0), BAD);
        due("to the lower bound", bench.slide(0, 0, -99995), 0);
        due("beyond it", bench.slide(0, 0, -1), BAD);
        due("to the right bound", bench.slide(0, 199996, 0), 0);
        due("beyond it", bench.slide(0, 1, 0), BAD);
        due("to the upper bound", bench.slide(0, 0, 199997), 0);
        due("beyond it", bench.slide(0, 0, 1), BAD);
        dueMove(bench, 0, -1, 100000, 100000);
    }

    private static void slideRefused() {
        says(8, REFUSED);
        refused("piece 3", Checks::busy, b -> b.slide(3, 0, 0), BAD);
        refused("dx 200001", Checks::busy, b -> b.slide(0, 200001, 0), BAD);
        refused("beyond the bounds", Checks::busy, b -> b.slide(0, 0, 99999), BAD);
        refused("a turned one beyond the bounds", Checks::busy, b -> b.slide(1, -100009, 0), BAD);
    }

    // ---- promise 9

    private static void halfNumbers() {
        says(9, "A PIECE is turned by half a turn: (x, y) comes to (a - x, b - y), a, b -200000 .. 200000: 0.");
        due("about (0, 0)", box(4, 4).half(0, 0, 0), 0);
        ScissorsBench bench = begun(1, 99999, 99999, 100000, 99999, 99999, 100000);
        due("a and b 199999", bench.half(0, 199999, 199999), 0);
        dueCorners(bench, 0, 0, 99999, 100000, 100000, 99999, 100000, 100000);
        due("a and b 199999 again", bench.half(0, 199999, 199999), 0);
        dueMove(bench, 0, 1, 0, 0);
        bench = begun(1, -100000, -100000, -99999, -100000, -100000, -99999);
        due("a and b -199999", bench.half(0, -199999, -199999), 0);
        dueMove(bench, 0, -1, -199999, -199999);

        says(9, "BAD, as for slide()");
        due("a -200000", bench.half(0, -200000, -199999), BAD);
        due("b -200000", bench.half(0, -199999, -200000), BAD);
        bench = begun(1, 99999, 99999, 100000, 99999, 99999, 100000);
        due("a 200000", bench.half(0, 200000, 199999), BAD);
        due("b 200000", bench.half(0, 199999, 200000), BAD);
        for (int far : TOO_FAR) {
            due("a " + far, box(4, 4).half(0, far, 0), BAD);
            due("b " + far, box(4, 4).half(0, 0, far), BAD);
            due("a and b " + far, box(4, 4).half(0, far, far), BAD);
        }
        says(9, "numbered from 0");
        for (int piece : NO_PIECES) {
            due("piece " + piece, strips(3).half(piece, 0, 0), BAD);
        }
        due("piece 0", strips(3).half(0, 1, 0), 0);
        due("piece 2", strips(3).half(2, 1, 0), 0);
        due("piece 0 of none", new ScissorsBench().half(0, 0, 0), BAD);
    }

    private static void halfBounds() {
        says(9, "BAD, as for slide()");
        Recipe diamond = () -> begun(1, 0, 2, 2, 0, 4, 2, 2, 4);
        due("to the left bound", diamond.make().half(0, -99996, 0), 0);
        due("beyond it", diamond.make().half(0, -99997, 0), BAD);
        due("to the right bound", diamond.make().half(0, 100000, 0), 0);
        due("beyond it", diamond.make().half(0, 100001, 0), BAD);
        due("to the lower bound", diamond.make().half(0, 0, -99996), 0);
        due("beyond it", diamond.make().half(0, 0, -99997), BAD);
        due("to the upper bound", diamond.make().half(0, 0, 100000), 0);
        due("beyond it", diamond.make().half(0, 0, 100001), BAD);
        ScissorsBench bench = diamond.make();
        bench.slide(0, 50000, -50000);
        due("a slid one to the left bound", bench.half(0, -49996, 0), 0);
        bench.undo();
        due("a slid one beyond it", bench.half(0, -49997, 0), BAD);
        due("a slid one to the upper bound", bench.half(0, 0, 50000), 0);
        bench.undo();
        due("a slid one beyond it", bench.half(0, 0, 50001), BAD);
        dueMove(bench, 0, 1, 50000, -50000);
    }

    private static void halfTwice() {
        says(9, "MOVE: a TURN 1 or -1");
        ScissorsBench bench = begun(1, 0, 0, 4, 0, 4, 1, 0, 3);
        bench.slide(0, 1, 2);
        due("half of a slid one", bench.half(0, 10, 20), 0);
        dueMove(bench, 0, -1, 9, 18);
        dueCorners(bench, 0, 0, 5, 17, 9, 15, 9, 18, 5, 18);
        dueCorners(bench, 0, 2, 0, 0, 4, 0, 4, 1, 0, 3);
        due("half about the same place", bench.half(0, 10, 20), 0);
        dueMove(bench, 0, 1, 1, 2);
        due("half", bench.half(0, 10, 20), 0);
        due("half about another place", bench.half(0, 11, 18), 0);
        dueMove(bench, 0, 1, 2, 0);
        bench = begun(1, 0, 0, 4, 0, 0, 4);
        bench.aside(0, 1);
        bench.half(0, 4, 4);
        due("about(0, 5): spare still", bench.about(0, 5), 1);
    }

    private static void halfRefused() {
        says(9, REFUSED);
        refused("piece 3", Checks::busy, b -> b.half(3, 0, 0), BAD);
        refused("a 200001", Checks::busy, b -> b.half(0, 200001, 0), BAD);
        refused("b -200001", Checks::busy, b -> b.half(0, 0, -200001), BAD);
        refused("beyond the bounds", Checks::busy, b -> b.half(1, 100009, 0), BAD);
    }

    // ---- promise 10

    private static void joinPieces() {
        says(10, "BAD: pieces, the same one");
        for (int piece : NO_PIECES) {
            due("piece " + piece, strips(3).join(piece, 0), BAD);
            due("other " + piece, strips(3).join(0, piece), BAD);
            due("both " + piece, strips(3).join(piece, piece), BAD);
        }
        due("the same one, the first", strips(3).join(0, 0), BAD);
        due("the same one, the last", strips(3).join(2, 2), BAD);
        due("0 and 1 of one", box(4, 4).join(0, 1), BAD);
        due("0 and 1 of none", new ScissorsBench().join(0, 1), BAD);
        due("0 and 1", strips(3).join(0, 1), 4);
        due("2 and 1", strips(3).join(2, 1), 4);
        due("38 and 39 of 40", strips(40).join(38, 39), 4);
        due("39 and 40 of 40", strips(40).join(39, 40), BAD);
    }

    private static void joinSameMove() {
        says(10, "they have the same MOVE, and a side in common");
        ScissorsBench bench = strips(2);
        bench.slide(0, 1, 0);
        due("a alone is another", bench.join(0, 1), NO);
        due("a alone is another, the other way", bench.join(1, 0), NO);
        bench = strips(2);
        bench.slide(0, 0, -1);
        due("b alone is another", bench.join(0, 1), NO);
        bench = strips(2);
        bench.half(0, 0, 0);
        due("TURN alone is another", bench.join(0, 1), NO);
        bench = box(4, 4);
        bench.cut(2, 0, 2, 4);
        bench.slide(0, 4, 0);
        due("side to side, but moved", bench.join(0, 1), NO);
        bench.half(0, 6, 4);
        bench.slide(0, -2, 0);
        bench.half(1, 6, 4);
        dueMove(bench, 0, -1, 0, 4);
        dueMove(bench, 1, -1, 6, 4);
        due("both turned, not alike", bench.join(0, 1), NO);
        bench.slide(0, 6, 0);
        due("both turned alike", bench.join(0, 1), 4);
        dueMove(bench, 0, -1, 6, 4);
        dueCorners(bench, 0, 2, 0, 0, 4, 0, 4, 4, 0, 4);
        dueCorners(bench, 0, 0, 2, 0, 6, 0, 6, 4, 2, 4);
        bench = strips(2);
        bench.slide(0, 9, 9);
        bench.slide(1, 9, 9);
        due("both slid alike", bench.join(1, 0), 4);
        dueMove(bench, 0, 1, 9, 9);
    }

    private static void joinCommonSide() {
        says(10, "a side in common: corners c, d one behind the other of the one, and d, c of the other");
        due("far from one another", strips(3).join(0, 2), NO);
        ScissorsBench bench = box(4, 4);
        bench.cut(2, 0, 2, 4);
        bench.cut(0, 2, 4, 2);
        due("a corner in common", bench.join(0, 3), NO);
        due("a corner in common, the other way", bench.join(3, 0), NO);
        due("the side below", bench.join(0, 2), 4);
        due("the side on the right", bench.join(1, 2), 4);
        due("the longer side", bench.join(0, 1), 4);

        bench = box(4, 4);
        bench.cut(0, 2, 4, 2);
        bench.part(1, 2, 0, 0, 1);
        due("a part of a side", bench.join(0, 1), NO);
        due("a part of a side, the other way", bench.join(1, 0), NO);
        due("the other part of it", bench.join(0, 2), NO);
        bench = box(4, 4);
        bench.cut(0, 2, 4, 2);
        bench.part(1, 1, 0, 0, 1);
        bench.part(0, 3, 0, 0, 1);
        due("sides that are alike in the middle alone", bench.join(0, 2), NO);

        bench = begun(1, 0, 0, 6, 0, 0, 6);
        bench.cut(0, 0, 3, 3);
        due("the side from the first corner", bench.join(0, 1), 3);
        dueCorners(bench, 0, 2, 0, 0, 6, 0, 0, 6);
        bench.cut(6, 0, 0, 3);
        due("the side to the first corner", bench.join(1, 0), 3);
        dueCorners(bench, 0, 2, 0, 0, 6, 0, 0, 6);
    }

    private static void joinInward() {
        says(10, "What they are together must be a RING");
        ScissorsBench bench = pentagonPieces();
        dueCorners(bench, 0, 0, 0, 4, 8, 4, 8, 8, 0, 8);
        dueCorners(bench, 3, 0, 0, 0, 12, 0, 8, 4, 0, 4);
        due("inward at the one end", bench.join(0, 3), NO);
        due("inward at the one end, the other way", bench.join(3, 0), NO);
        bench = begun(1, 0, 0, 12, 0, 12, 8, 0, 8);
        bench.cut(0, 4, 12, 4);
        bench.part(0, 4, 0, 0, -1);
        bench.part(1, 4, 4, -1, -1);
        dueCorners(bench, 0, 0, 4, 4, 12, 4, 12, 8, 4, 8);
        dueCorners(bench, 1, 0, 0, 0, 12, 0, 12, 4, 4, 4);
        due("inward at the other end", bench.join(0, 1), NO);
        due("inward at the other end, the other way", bench.join(1, 0), NO);
        bench = box(12, 8);
        bench.cut(0, 4, 12, 4);
        bench.part(0, 4, 0, 0, -1);
        bench.part(0, 8, 0, 0, 1);
        bench.part(1, 4, 4, -1, -1);
        bench.part(1, 8, 4, 1, -1);
        dueCorners(bench, 0, 0, 4, 4, 8, 4, 8, 8, 4, 8);
        dueCorners(bench, 5, 0, 0, 0, 12, 0, 8, 4, 4, 4);
        due("inward at both ends", bench.join(0, 5), NO);
        due("inward at both ends, the other way", bench.join(5, 0), NO);
    }

    private static ScissorsBench pentagonPieces() {
        ScissorsBench bench = box(12, 8);
        bench.cut(0, 4, 12, 4);
        bench.part(0, 8, 0, 0, 1);
        bench.part(1, 8, 4, 1, -1);
        return bench;
    }

    private static void joinStraight() {
        says(10, "corners that come to be straight are left out");
        ScissorsBench bench = box(4, 4);
        bench.cut(0, 0, 4, 4);
        due("none straight", bench.join(0, 1), 4);
        dueCorners(bench, 0, 2, 0, 0, 4, 0, 4, 4, 0, 4);
        bench = box(4, 4);
        bench.cut(2, 0, 2, 4);
        due("both straight", bench.join(0, 1), 4);
        dueCorners(bench, 0, 2, 0, 0, 4, 0, 4, 4, 0, 4);
        bench = begun(1, 0, 0, 8, 0, 8, 4, 4, 8, 0, 8);
        bench.cut(4, 0, 4, 8);
        due("the lower one straight", bench.join(0, 1), 5);
        dueCorners(bench, 0, 2, 0, 0, 8, 0, 8, 4, 4, 8, 0, 8);
        bench = begun(1, 0, 0, 4, -4, 8, 0, 8, 8, 0, 8);
        bench.cut(4, -4, 4, 8);
        due("the upper one straight", bench.join(1, 0), 5);
        dueCorners(bench, 0, 2, 0, 0, 4, -4, 8, 0, 8, 8, 0, 8);
        bench = begun(1, ROUND);
        bench.cut(1, 0, 0, 9);
        due("none straight, though but a little bent", bench.join(0, 1), 16);
        bench = begun(1, 0, 0, 1, -1, 1, 0, 0, 1);
        bench.cut(0, 0, 1, 0);
        due("as small as can be", bench.join(0, 1), 4);
        bench = begun(1, 0, 0, 6, 0, 0, 6);
        bench.cut(3, 0, 3, 3);
        bench.cut(0, 3, 3, 3);
        due("two triangles and a square", bench.count(0), 3);
        due("the square and a triangle", bench.join(2, 1), 4);
        due("and the other one", bench.join(1, 0), 3);
        dueCorners(bench, 0, 2, 0, 0, 6, 0, 0, 6);
    }

    private static void joinNumbers() {
        says(10, "it is PIECE p then, not SPARE; q is no more, and those with greater numbers (it, too) "
            + "have numbers one less");
        ScissorsBench bench = strips(5);
        due("join(1, 2)", bench.join(1, 2), 4);
        due("count(0)", bench.count(0), 4);
        dueStrips(bench, 0, 1, 3, 4, 40);
        bench = strips(5);
        due("join(2, 1)", bench.join(2, 1), 4);
        due("count(0)", bench.count(0), 4);
        dueStrips(bench, 0, 1, 3, 4, 40);
        bench = strips(5);
        due("join(1, 0): it, too", bench.join(1, 0), 4);
        dueStrips(bench, 0, 2, 3, 4, 40);
        bench = strips(5);
        due("join(4, 3): it, too", bench.join(4, 3), 4);
        dueStrips(bench, 0, 1, 2, 3, 40);
        due("isOf(4, 0)", bench.isOf(4, 0), BAD);
        bench = box(4, 4);
        bench.cut(2, 0, 2, 4);
        bench.cut(0, 2, 4, 2);
        due("join(0, 2)", bench.join(0, 2), 4);
        dueCorners(bench, 0, 0, 0, 0, 2, 0, 2, 4, 0, 4);
        dueCorners(bench, 1, 0, 2, 2, 4, 2, 4, 4, 2, 4);
        dueCorners(bench, 2, 0, 2, 0, 4, 0, 4, 2, 2, 2);
        bench = box(4, 4);
        bench.cut(2, 0, 2, 4);
        bench.cut(0, 2, 4, 2);
        due("join(2, 0): it, too, but two others with it", bench.join(2, 0), 4);
        due("count(0)", bench.count(0), 3);
        dueCorners(bench, 0, 0, 2, 2, 4, 2, 4, 4, 2, 4);
        dueCorners(bench, 1, 0, 0, 0, 2, 0, 2, 4, 0, 4);
        dueCorners(bench, 2, 0, 2, 0, 4, 0, 4, 2, 2, 2);
        bench = strips(40);
        for (int i = 39; i > 0; i--) {
            due("join(0, 1) of " + (i + 1), bench.join(0, 1), 4);
        }
        due("count(0)", bench.count(0), 1);
        dueCorners(bench, 0, 0, 0, 0, 40, 0, 40, 2, 0, 2);

        for (int spare = 0; spare < 4; spare++) {
            bench = box(4, 4);
            bench.cut(0, 0, 4, 4);
            bench.aside(0, spare % 2);
            bench.aside(1, spare / 2);
            due("spare ones, way " + spare, bench.join(0, 1), 4);
            due("about(0, 5)", bench.about(0, 5), 0);
        }
        bench = strips(3);
        bench.part(2, 39, 0, 1, 1);
        bench.aside(3, 1);
        bench.slide(3, 5, 6);
        due("join(1, 0) before a spare one", bench.join(1, 0), 4);
        due("about(1, 5)", bench.about(1, 5), 0);
        due("about(2, 5): that one is spare still", bench.about(2, 5), 1);
        dueMove(bench, 2, 1, 5, 6);
    }

    /** That the pieces are boxes of 2 high, each from the one of these to the next. */
    private static void dueStrips(ScissorsBench bench, int... ends) {
        for (int p = 0; p + 1 < ends.length; p++) {
            dueCorners(bench, p, 0, ends[p], 0, ends[p + 1], 0, ends[p + 1], 2, ends[p], 2);
        }
    }

    /** Two halves of a ring of 16 corners, with a corner each cut off, and what was cut off: 10, 10, 3, 3 corners. */
    private static ScissorsBench cornersOff() {
        ScissorsBench bench = begun(8, ROUND);
        bench.cut(8, 0, 0, 72);
        bench.part(1, 16, 4, 3, 2);
        bench.part(0, -20, 60, -2, -3);
        return bench;
    }

    private static void joinFull() {
        says(10, "FULL: more than 16 corners.");
        ScissorsBench bench = cornersOff();
        due("corners of 0 and 1", bench.about(0, 0) * 100 + bench.about(1, 0), 1010);
        due("18 together", bench.join(0, 1), FULL);
        due("18 together, the other way", bench.join(1, 0), FULL);
        due("one corner back", bench.join(1, 2), 9);
        due("17 together", bench.join(0, 1), FULL);
        due("17 together, the other way", bench.join(1, 0), FULL);
        due("the other corner back", bench.join(0, 2), 9);
        due("16 together", bench.join(0, 1), 16);
        due("about(0, 0)", bench.about(0, 0), 16);
        says(10, "corners that come to be straight are left out; 16 corners at most");
        bench = begun(4, ROUND);
        bench.cut(2, 0, 2, 36);
        due("corners of 0 and 1", bench.about(0, 0) * 100 + bench.about(1, 0), 1010);
        due("18 together, two of them straight", bench.join(0, 1), 16);
        bench = begun(4, ROUND);
        bench.cut(0, 0, 8, 2);
        due("corners of 0 and 1", bench.about(0, 0) * 100 + bench.about(1, 0), 1603);
        due("17 together, one of them straight", bench.join(1, 0), 16);
    }

    private static void joinFirstReason() {
        says(10, "NO: they can't be (however many corners)");
        ScissorsBench bench = cornersOff();
        due("corners of 0 and 1", bench.about(0, 0) * 100 + bench.about(1, 0), 1010);
        bench.slide(0, 1, 0);
        due("20 corners, another MOVE", bench.join(0, 1), NO);
        bench = begun(8, ROUND);
        bench.cut(8, 0, 0, 72);
        bench.part(0, 4, 0, 1, 3);
        bench.part(1, 7, 9, 9, -5);
        due("corners of 0 and 1", bench.about(0, 0) * 100 + bench.about(1, 0), 1010);
        due("18 together, one of them inward", bench.join(0, 1), NO);
        due("18 together, one of them inward, the other way", bench.join(1, 0), NO);
        bench = begun(8, ROUND);
        bench.cut(4, 0, 4, 72);
        bench.part(0, 2, 0, 0, 1);
        due("corners of 0 and 1", bench.about(0, 0) * 100 + bench.about(1, 0), 1010);
        due("no side in common", bench.join(0, 1), NO);
        says(10, "of several the one that stands first here");
        due("BAD, not NO", strips(3).join(0, 3), BAD);
        due("BAD by the same one, not NO", box(4, 4).join(0, 0), BAD);
    }

    private static void joinRefused() {
        says(10, REFUSED);
        refused("the same one", Checks::busy, b -> b.join(1, 1), BAD);
        refused("piece 3", Checks::busy, b -> b.join(1, 3), BAD);
        refused("another MOVE", Checks::busy, b -> b.join(1, 2), NO);
        refused("inward", EdgesOfMovesTest::pentagonPieces, b -> b.join(0, 3), NO);
        refused("no side in common", () -> strips(3), b -> b.join(2, 0), NO);
        refused("18 together", EdgesOfMovesTest::cornersOff, b -> b.join(0, 1), FULL);
    }

    // ---- promise 11

    private static void aside() {
        says(11, "A PIECE is SPARE (on 1) or not (0): what it was.");
        ScissorsBench bench = begun(1, 0, 0, 4, 0, 0, 4);
        due("0, 0", bench.aside(0, 0), 0);
        due("about(0, 5)", bench.about(0, 5), 0);
        due("0, 1", bench.aside(0, 1), 0);
        due("about(0, 5)", bench.about(0, 5), 1);
        due("0, 1 again", bench.aside(0, 1), 1);
        due("about(0, 5)", bench.about(0, 5), 1);
        due("0, 0", bench.aside(0, 0), 1);
        due("about(0, 5)", bench.about(0, 5), 0);
        due("0, 0 again", bench.aside(0, 0), 0);

        says(11, "BAD; NO: it is no TRIANGLE, and on is 1.");
        due("four corners, on 1", box(4, 4).aside(0, 1), NO);
        due("four corners, on 0", box(4, 4).aside(0, 0), 0);
        due("16 corners, on 1", begun(1, ROUND).aside(0, 1), NO);
        int[] noTriangle = {-1, 2, LOWEST, HIGHEST};
        for (int on : noTriangle) {
            due("on " + on, begun(1, 0, 0, 4, 0, 0, 4).aside(0, on), BAD);
            due("BAD, not NO: on " + on, box(4, 4).aside(0, on), BAD);
        }
        for (int piece : NO_PIECES) {
            due("piece " + piece + ", on 1", strips(3).aside(piece, 1), BAD);
            due("piece " + piece + ", on 0", strips(3).aside(piece, 0), BAD);
        }
        due("piece 0 of none", new ScissorsBench().aside(0, 0), BAD);
        bench = box(4, 4);
        bench.cut(0, 0, 4, 4);
        due("piece 1 of 2", bench.aside(1, 1), 0);
        due("about(0, 5): that one alone", bench.about(0, 5), 0);
        due("piece 2 of 2", bench.aside(2, 1), BAD);
    }

    private static void asideRefused() {
        says(11, REFUSED);
        refused("four corners, on 1", Checks::busy, b -> b.aside(0, 1), NO);
        refused("on 2", Checks::busy, b -> b.aside(2, 2), BAD);
        refused("on -1", Checks::busy, b -> b.aside(2, -1), BAD);
        refused("piece 3", Checks::busy, b -> b.aside(3, 1), BAD);
    }

    // ---- promise 12

    private static void back() {
        says(12, "All PIECES go back to their ORIGINS (their MOVES are 1 and (0, 0)): how many had another MOVE.");
        due("without pieces", new ScissorsBench().back(), 0);
        due("one that did not move", box(4, 4).back(), 0);
        ScissorsBench bench = strips(40);
        due("40 that did not move", bench.back(), 0);
        for (int p = 0; p < 40; p++) {
            bench.slide(p, 0, p % 2 == 0 ? 1 : -1);
        }
        due("40 that moved", bench.back(), 40);
        due("and then", bench.back(), 0);
        bench.slide(0, 0, 1);
        bench.slide(39, 1, 0);
        due("the first and the last", bench.back(), 2);
        dueMove(bench, 0, 1, 0, 0);
        dueMove(bench, 39, 1, 0, 0);
        bench.half(3, 0, 0);
        due("one by its TURN alone", bench.back(), 1);
        dueMove(bench, 3, 1, 0, 0);
        bench.slide(3, -1, 0);
        due("one by a alone", bench.back(), 1);
        bench.slide(3, 0, -1);
        due("one by b alone", bench.back(), 1);
        bench.slide(3, 1, -1);
        due("one by a and b, that are 0 together", bench.back(), 1);
        bench.half(3, 5, 5);
        bench.half(3, 5, 5);
        due("one that was turned back", bench.back(), 0);
        due("back() is a CHANGE", bench.count(3), 6);

        bench = begun(1, 0, 0, 4, 0, 0, 3);
        bench.half(0, 9, 9);
        bench.aside(0, 1);
        due("a spare one", bench.back(), 1);
        dueCorners(bench, 0, 0, 0, 0, 4, 0, 0, 3);
        due("about(0, 5): spare still", bench.about(0, 5), 1);
    }
}
