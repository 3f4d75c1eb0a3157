/** Promises 6 and 7, each sentence that names an edge, under that sentence. */
public final class EdgesOfCutsTest extends Checks {
    private static final String REFUSED = "A call that is refused answers one of BAD, NO, FULL, OFF, "
        + "of several the one that stands first here, and changes nothing";
    private static final int[] OUT = {-100001, 100001, LOWEST, HIGHEST};

    public static void main(String[] args) {
        cutHowMany();
        cutSpareOnes();
        crossing();
        crossingThePlace();
        sides();
        numbers();
        moves();
        off();
        offOfAny();
        offAtTheBounds();
        cutNumbers();
        cutFull();
        fullOfCorners();
        fullOfCornersOfAny();
        cutFirstReason();
        cutRefused();
        partNumbers();
        partLine();
        partOneAlone();
        partNo();
        partFull();
        partFirstReason();
        partRefused();
        Due.end();
    }

    /** A line by which one piece alone is cut by cut() as by part(): what answer is due, of a piece not crossed 0. */
    private static void dueBoth(String what, Recipe recipe, int ax, int ay, int bx, int by, long want) {
        String line = what + " (" + ax + ", " + ay + "), (" + bx + ", " + by + ")";
        due("cut " + line, recipe.make().cut(ax, ay, bx, by), want);
        due("part " + line, recipe.make().part(0, ax, ay, bx - ax, by - ay), want == 0 ? NO : want);
        due("cut back " + line, recipe.make().cut(bx, by, ax, ay), want);
        due("part back " + line, recipe.make().part(0, bx, by, ax - bx, ay - by), want == 0 ? NO : want);
    }

    // ---- promise 6

    private static void cutHowMany() {
        says(6, "All PIECES (SPARE ones, too) that a LINE CROSSES are CUT by it, by their numbers: how many were.");
        ScissorsBench bench = new ScissorsBench();
        due("cut without pieces", bench.cut(0, 0, 1, 1), 0);
        due("count(0)", bench.count(0), 0);
        due("count(3): it is a CHANGE", bench.count(3), 1);
        bench = box(4, 4);
        due("cut of none", bench.cut(0, 5, 1, 5), 0);
        due("count(0)", bench.count(0), 1);
        due("count(3)", bench.count(3), 2);
        due("cut of one", bench.cut(2, 0, 2, 1), 1);
        due("cut of both", bench.cut(0, 2, 1, 2), 2);

        bench = strips(20);
        due("cut of all of 20", bench.cut(0, 1, 40, 1), 20);
        due("count(0)", bench.count(0), 40);
        dueCorners(bench, 0, 0, 0, 1, 1, 1, 1, 2, 0, 2);
        dueCorners(bench, 19, 0, 19, 1, 40, 1, 40, 2, 19, 2);
        dueCorners(bench, 20, 0, 0, 0, 1, 0, 1, 1, 0, 1);
        dueCorners(bench, 21, 0, 1, 0, 2, 0, 2, 1, 1, 1);
        dueCorners(bench, 39, 0, 19, 0, 40, 0, 40, 1, 19, 1);

        bench = strips(4);
        bench.slide(0, 0, 2);
        bench.slide(2, 0, 2);
        due("cut of the second and the last", bench.cut(40, 1, 0, 1), 2);
        due("count(0)", bench.count(0), 6);
        dueCorners(bench, 0, 0, 0, 2, 1, 2, 1, 4, 0, 4);
        dueCorners(bench, 1, 0, 1, 0, 2, 0, 2, 1, 1, 1);
        dueCorners(bench, 2, 0, 2, 2, 3, 2, 3, 4, 2, 4);
        dueCorners(bench, 3, 0, 3, 0, 40, 0, 40, 1, 3, 1);
        dueCorners(bench, 4, 0, 1, 1, 2, 1, 2, 2, 1, 2);
        dueCorners(bench, 5, 0, 3, 1, 40, 1, 40, 2, 3, 2);
    }

    private static void cutSpareOnes() {
        says(6, "All PIECES (SPARE ones, too) that a LINE CROSSES are CUT by it");
        ScissorsBench bench = twoSpare();
        due("cut of two spare ones", bench.cut(2, 0, 2, 4), 2);
        due("count(0)", bench.count(0), 4);
        says(6, "both have its MOVE, and are not SPARE");
        for (int p = 0; p < 4; p++) {
            due("about(" + p + ", 5)", bench.about(p, 5), 0);
        }
        bench = twoSpare();
        bench.slide(0, 10, 0);
        due("cut of one of two", bench.cut(2, 0, 2, 4), 1);
        due("about(0, 5): not cut, spare still", bench.about(0, 5), 1);
        due("about(1, 5)", bench.about(1, 5), 0);
        due("about(2, 5)", bench.about(2, 5), 0);
        bench = twoSpare();
        due("cut of none", bench.cut(4, 0, 4, 4), 0);
        due("about(1, 5)", bench.about(1, 5), 1);
    }

    private static ScissorsBench twoSpare() {
        ScissorsBench bench = box(4, 4);
        bench.cut(0, 0, 4, 4);
        bench.aside(0, 1);
        bench.aside(1, 1);
        return bench;
    }

    private static void crossing() {
        says(6, "It CROSSES a PIECE, if corners of its PLACE lie to the left and to the right of it");
        Recipe square = () -> box(4, 4);
        dueBoth("along the lower side", square, 0, 0, 4, 0, 0);
        dueBoth("along the upper side", square, 0, 4, 4, 4, 0);
        dueBoth("along the left side", square, 0, 0, 0, 4, 0);
        dueBoth("along the right side", square, 4, 0, 4, 4, 0);
        dueBoth("along a side, from beside it", square, 6, 0, 9, 0, 0);
        dueBoth("through the first corner alone", square, -1, 1, 1, -1, 0);
        dueBoth("through the second corner alone", square, 3, -1, 5, 1, 0);
        dueBoth("through the third corner alone", square, 5, 3, 3, 5, 0);
        dueBoth("through the last corner alone", square, -1, 3, 1, 5, 0);
        dueBoth("beside it", square, 0, -1, 4, -1, 0);
        dueBoth("one grain in, along", square, 0, 1, 4, 1, 1);
        dueBoth("one grain in, from above", square, 0, 3, 4, 3, 1);
        dueBoth("one grain in, up", square, 1, 0, 1, 4, 1);
        dueBoth("one grain in, from the right", square, 3, 0, 3, 4, 1);
        dueBoth("one corner alone to the left", square, 3, 0, 4, 1, 1);
        dueBoth("from corner to corner", square, 0, 0, 4, 4, 1);
        dueBoth("from a corner to a side", square, 0, 0, 4, 1, 1);
        dueBoth("places before it", square, -3, 2, -2, 2, 1);
        dueBoth("places behind it", square, 7, 7, 8, 8, 1);
        dueBoth("places in it", square, 1, 2, 2, 2, 1);
        dueBoth("places on its sides", square, 2, 0, 2, 4, 1);

        Recipe triangle = () -> begun(1, 0, 0, 6, 0, 0, 4);
        dueBoth("along the slanted side", triangle, 6, 0, 0, 4, 0);
        dueBoth("a grain before it", triangle, 0, 2, 3, 0, 1);
        dueBoth("a grain behind it", triangle, 6, 1, 0, 5, 0);
    }

    private static void crossingThePlace() {
        says(6, "It CROSSES a PIECE, if corners of its PLACE lie to the left and to the right of it");
        Recipe slid = () -> {
            ScissorsBench bench = box(4, 4);
            bench.slide(0, 10, 0);
            return bench;
        };
        dueBoth("through where it was", slid, 2, 0, 2, 4, 0);
        dueBoth("through where it is", slid, 12, 0, 12, 4, 1);
        Recipe turned = () -> {
            ScissorsBench bench = begun(1, 0, 0, 4, 0, 0, 4);
            bench.half(0, 0, 0);
            return bench;
        };
        dueBoth("through where it was before the turn", turned, 1, 0, 1, 4, 0);
        dueBoth("through where it is behind the turn", turned, -1, 0, -1, -4, 1);
    }

    private static void sides() {
        says(6, "its PLACE is parted into what is to the left, and what is to the right; "
            + "the first part has the PIECE's number");
        ScissorsBench bench = box(4, 4);
        bench.cut(1, 0, 1, 4);
        dueCorners(bench, 0, 0, 0, 0, 1, 0, 1, 4, 0, 4);
        dueCorners(bench, 1, 0, 1, 0, 4, 0, 4, 4, 1, 4);
        bench = box(4, 4);
        bench.cut(1, 4, 1, 0);
        dueCorners(bench, 0, 0, 1, 0, 4, 0, 4, 4, 1, 4);
        dueCorners(bench, 1, 0, 0, 0, 1, 0, 1, 4, 0, 4);
        bench = box(4, 4);
        bench.cut(0, 1, 4, 1);
        dueCorners(bench, 0, 0, 0, 1, 4, 1, 4, 4, 0, 4);
        dueCorners(bench, 1, 0, 0, 0, 4, 0, 4, 1, 0, 1);
        bench = box(4, 4);
        bench.part(0, 4, 1, -1, 0);
        dueCorners(bench, 0, 0, 0, 0, 4, 0, 4, 1, 0, 1);
        dueCorners(bench, 1, 0, 0, 1, 4, 1, 4, 4, 0, 4);

        says(6, "A RING is 3 to 16 corners, told against the clock, without inward or straight corners");
        bench = box(4, 4);
        bench.cut(0, 4, 4, 0);
        dueCorners(bench, 0, 0, 0, 4, 4, 0, 4, 4);
        dueCorners(bench, 1, 0, 0, 0, 4, 0, 0, 4);
        bench = box(4, 4);
        bench.cut(4, 3, 0, 0);
        dueCorners(bench, 0, 0, 0, 0, 4, 0, 4, 3);
        dueCorners(bench, 1, 0, 0, 0, 4, 3, 4, 4, 0, 4);
    }

    private static void numbers() {
        says(6, "the other one is a new PIECE, behind all");
        ScissorsBench bench = strips(3);
        due("part of the first", bench.part(0, 0, 1, 1, 0), 3);
        dueCorners(bench, 3, 0, 0, 0, 1, 0, 1, 1, 0, 1);
        dueCorners(bench, 1, 0, 1, 0, 2, 0, 2, 2, 1, 2);
        dueCorners(bench, 2, 0, 2, 0, 40, 0, 40, 2, 2, 2);
        due("cut of the last", bench.cut(20, 0, 20, 2), 1);
        dueCorners(bench, 4, 0, 20, 0, 40, 0, 40, 2, 20, 2);
    }

    private static void moves() {
        says(6, "both have its MOVE, and are not SPARE");
        ScissorsBench bench = begun(1, 0, 0, 6, 0, 0, 4);
        bench.half(0, 5, 7);
        bench.aside(0, 1);
        dueCorners(bench, 0, 0, -1, 7, 5, 3, 5, 7);
        due("cut of a turned one", bench.cut(2, 0, 2, 9), 1);
        dueMove(bench, 0, -1, 5, 7);
        dueMove(bench, 1, -1, 5, 7);
        dueCorners(bench, 0, 0, -1, 7, 2, 5, 2, 7);
        dueCorners(bench, 1, 0, 2, 5, 5, 3, 5, 7, 2, 7);
        dueCorners(bench, 0, 2, 3, 0, 6, 0, 3, 2);
        dueCorners(bench, 1, 2, 0, 0, 3, 0, 3, 2, 0, 4);
        due("about(0, 5)", bench.about(0, 5), 0);
        due("about(1, 5)", bench.about(1, 5), 0);
    }

    private static void off() {
        says(6, "It is OFF, if a place at which the LINE goes through a side is not of whole GRAINS.");
        Recipe square = () -> box(4, 4);
        dueBoth("both whole", square, 0, 1, 4, 2, 1);
        dueBoth("y not whole on the right", square, 0, 1, 3, 2, OFF);
        dueBoth("y not whole on the left", square, 4, 1, 1, 2, OFF);
        dueBoth("y not whole on both", square, -2, 0, 6, 4, 1);
        dueBoth("y half a grain on both", square, -1, 0, 1, 1, OFF);
        dueBoth("x not whole above", square, 1, 0, 2, 3, OFF);
        dueBoth("x not whole below", square, 1, 4, 2, 1, OFF);
        dueBoth("x whole on both", square, 1, 0, 2, 4, 1);
        dueBoth("through a corner and whole", square, 0, 0, 4, 1, 1);
        dueBoth("through a corner, and not whole", square, 0, 0, 3, 1, OFF);
        dueBoth("through a corner, and by half a grain not", square, 0, 0, 8, 1, OFF);
        dueBoth("through two corners", square, 1, 1, 2, 2, 1);

        Recipe triangle = () -> begun(1, 0, 0, 6, 0, 0, 4);
        dueBoth("whole on a slanted side", triangle, 3, 0, 3, 4, 1);
        dueBoth("x whole alone", triangle, 2, 0, 2, 4, OFF);
        dueBoth("y whole alone", triangle, 0, 1, 6, 1, OFF);
        dueBoth("y and x whole", triangle, 0, 2, 6, 2, 1);
        dueBoth("neither whole", triangle, 0, 1, 1, 2, OFF);

        Recipe below = () -> begun(1, -4, -4, 0, -4, 0, 0, -4, 0);
        dueBoth("whole below 0", below, -4, -3, 0, -2, 1);
        dueBoth("not whole below 0", below, -4, -3, -1, -2, OFF);
        dueBoth("half a grain below 0", below, -4, -3, -2, -2, 1);
        dueBoth("half a grain below 0, on both", below, -5, -3, -3, -2, OFF);
    }

    private static void offOfAny() {
        says(6, "OFF (of any, behind FULL of all)");
        Recipe first = () -> fourStrips(0);
        Recipe second = () -> fourStrips(1);
        Recipe last = () -> fourStrips(3);
        refused("the first is not whole", first, b -> b.cut(0, 1, 40, 1), OFF);
        refused("the second is not whole", second, b -> b.cut(0, 1, 40, 1), OFF);
        refused("the last is not whole", last, b -> b.cut(40, 1, 0, 1), OFF);
        due("part of one beside it", fourStrips(3).part(0, 0, 1, 1, 0), 5);
        due("part of that one", fourStrips(3).part(3, 0, 1, 1, 0), OFF);
    }

    /** Strips, one of them parted aslant, so that a line at the height of 1 meets its new sides at half a grain. */
    private static ScissorsBench fourStrips(int piece) {
        ScissorsBench bench = strips(4);
        int x = piece == 3 ? 39 : piece;
        bench.part(piece, x, 2, 1, -2);
        return bench;
    }

    private static void offAtTheBounds() {
        says(6, "It is OFF, if a place at which the LINE goes through a side is not of whole GRAINS.");
        Recipe all = () -> begun(100000, -1, -1, 1, -1, 1, 1, -1, 1);
        due("whole from bound to bound", all.make().cut(-100000, -99999, 100000, 99999), 1);
        due("less than a grain beside", all.make().cut(-100000, -99999, 99999, 99999), OFF);
        due("less than a grain beside, above", all.make().cut(-99999, -100000, 99999, 99999), OFF);
        due("from corner to corner", all.make().cut(-100000, -100000, 100000, 100000), 1);
        due("by steps of 1000 and 999", all.make().part(0, -100000, -100000, 1000, 999), 1);
        due("by steps of 999 and 998", all.make().part(0, -100000, -100000, 999, 998), OFF);
        Recipe slim = () -> begun(1, -100000, -100000, 99999, 99998, 100000, 100000);
        due("whole on sides that nearly meet", slim.make().cut(0, 0, 1, -1), OFF);
        due("at their end", slim.make().cut(99999, 99999, 99999, 99998), 1);
    }

    private static void cutNumbers() {
        says(6, "BAD: numbers, A and B alike");
        due("A, B at the bounds", box(4, 4).cut(-100000, -100000, 100000, 100000), 1);
        due("B, A at the bounds", box(4, 4).cut(100000, 100000, -100000, -100000), 1);
        due("A, B at the other bounds", box(4, 4).cut(-100000, 100000, 100000, -100000), 0);
        for (int out : OUT) {
            due("ax " + out, box(4, 4).cut(out, 2, 0, 2), BAD);
            due("ay " + out, box(4, 4).cut(2, out, 2, 0), BAD);
            due("bx " + out, box(4, 4).cut(0, 2, out, 2), BAD);
            due("by " + out, box(4, 4).cut(2, 0, 2, out), BAD);
        }
        says(6, "A LINE goes through two unlike places A, B.");
        due("A and B alike", box(4, 4).cut(2, 2, 2, 2), BAD);
        due("A and B alike, without pieces", new ScissorsBench().cut(0, 0, 0, 0), BAD);
        due("alike in x alone", box(4, 4).cut(2, 2, 2, 3), 1);
        due("alike in y alone", box(4, 4).cut(2, 2, 3, 2), 1);
    }

    private static void cutFull() {
        says(6, "FULL: there would be more than 40, or more than 16 corners in any");
        ScissorsBench bench = strips(39);
        due("the 40th", bench.cut(39, 0, 39, 2), 1);
        due("count(0)", bench.count(0), 40);
        due("the 41st", bench.cut(0, 1, 40, 1), FULL);
        due("none more", bench.cut(0, 2, 40, 2), 0);
        due("count(0)", bench.count(0), 40);
        due("20 and 20", strips(20).cut(0, 1, 40, 1), 20);
        due("21 and 21", strips(21).cut(0, 1, 40, 1), FULL);
        due("40 and 40", strips(40).cut(0, 1, 40, 1), FULL);
        due("38 and 2", twoRaised(38).cut(0, 3, 40, 3), 2);
        due("39 and 2", twoRaised(39).cut(0, 3, 40, 3), FULL);
        due("40 and 1", strips(40).cut(39, 1, 38, 2), FULL);
        bench = strips(40);
        bench.join(0, 1);
        due("the 40th again", bench.cut(1, 0, 1, 2), 1);
        due("count(0)", bench.count(0), 40);
    }

    private static ScissorsBench twoRaised(int pieces) {
        ScissorsBench bench = strips(pieces);
        bench.slide(0, 0, 2);
        bench.slide(pieces - 1, 0, 2);
        return bench;
    }

    private static void fullOfCorners() {
        says(6, "FULL: there would be more than 40, or more than 16 corners in any");
        Recipe round = () -> begun(4, ROUND);
        dueBoth("17 corners", round, 2, 0, 8, 2, FULL);
        dueBoth("16 corners, through one", round, 0, 0, 8, 2, 1);
        dueBoth("17 corners, not whole", round, 2, 0, 7, 1, FULL);
        dueBoth("16 corners, not whole", round, 0, 0, 9, 2, OFF);
        dueBoth("10 corners on both sides", round, 2, 0, 2, 36, 1);
        dueBoth("9 corners on both sides", round, 0, 0, 4, 36, 1);
        dueBoth("none to the one side", round, 0, 0, 4, 0, 0);
        ScissorsBench bench = round.make();
        bench.cut(0, 0, 8, 2);
        due("about(0, 0)", bench.about(0, 0), 16);
        due("about(1, 0)", bench.about(1, 0), 3);
        bench = round.make();
        bench.cut(2, 0, 2, 36);
        due("about(0, 0)", bench.about(0, 0), 10);
        due("about(1, 0)", bench.about(1, 0), 10);
        Recipe less = () -> begun(4, java.util.Arrays.copyOf(ROUND, 30));
        dueBoth("16 corners of 15", less, 2, 0, 8, 2, 1);
        bench = less.make();
        bench.cut(2, 0, 8, 2);
        due("about(0, 0)", bench.about(0, 0), 16);
        due("about(1, 0)", bench.about(1, 0), 3);
    }

    /** Piece 0 is a triangle, piece 1 has 16 corners, 17 if cut by (19, 14), (20, 18), where piece 0 is not whole. */
    private static ScissorsBench triangleAndRound() {
        ScissorsBench bench = begun(4, ROUND);
        bench.cut(8, 2, 0, 0);
        bench.slide(0, 15, 13);
        return bench;
    }

    private static void fullOfCornersOfAny() {
        says(6, "or more than 16 corners in any");
        ScissorsBench bench = begun(4, ROUND);
        bench.cut(0, 0, 8, 2);
        due("corners of 0", bench.about(0, 0), 16);
        bench.slide(1, 15, 13);
        due("piece 0 alone", bench.part(0, 19, 14, 1, 4), FULL);
        due("piece 1 alone", bench.part(1, 19, 14, 1, 4), OFF);
        due("the first of two has 17", bench.cut(19, 14, 20, 18), FULL);
        bench.slide(1, 0, 500);
        due("the first of two has 17, the second is not crossed", bench.cut(19, 14, 20, 18), FULL);
        due("the second of two has 17", triangleAndRound().cut(20, 18, 19, 14), FULL);
        due("the second of two has 17, the first is not crossed", firstAway().cut(20, 18, 19, 14), FULL);
    }

    private static ScissorsBench firstAway() {
        ScissorsBench bench = triangleAndRound();
        bench.slide(0, 0, 500);
        return bench;
    }

    private static void cutFirstReason() {
        says(6, "of several the one that stands first here");
        due("BAD, not FULL, by ax", strips(40).cut(-100001, 1, 40, 1), BAD);
        due("BAD, not FULL, by bx", strips(40).cut(0, 1, HIGHEST, 1), BAD);
        due("BAD, not OFF", fourStrips(0).cut(0, 1, 100001, 1), BAD);
        says(6, "OFF (of any, behind FULL of all)");
        due("FULL of pieces, not OFF", strips(40).cut(0, 1, 3, 2), FULL);
        due("FULL of pieces, not OFF, of many", strips(30).cut(0, 0, 40, 1), FULL);
        due("OFF, if not FULL", strips(10).cut(0, 0, 40, 1), OFF);
        ScissorsBench bench = triangleAndRound();
        due("corners of 0", bench.about(0, 0), 3);
        due("corners of 1", bench.about(1, 0), 16);
        due("piece 0 alone", bench.part(0, 19, 14, 1, 4), OFF);
        due("piece 1 alone", bench.part(1, 19, 14, 1, 4), FULL);
        due("FULL of piece 1, not OFF of piece 0", bench.cut(19, 14, 20, 18), FULL);
        bench.slide(0, 0, 50);
        due("FULL of piece 1, piece 0 not crossed", bench.cut(19, 14, 20, 18), FULL);
    }

    private static void cutRefused() {
        says(6, REFUSED);
        refused("A and B alike", Checks::busy, b -> b.cut(0, 2, 0, 2), BAD);
        refused("A beyond the bounds", Checks::busy, b -> b.cut(100001, 2, 0, 2), BAD);
        refused("B beyond the bounds", Checks::busy, b -> b.cut(0, 2, 0, -100001), BAD);
        refused("not whole", Checks::busy, b -> b.cut(0, 0, 9, 1), OFF);
        refused("the 41st", () -> strips(40), b -> b.cut(0, 1, 40, 1), FULL);
        refused("17 corners", EdgesOfCutsTest::triangleAndRound, b -> b.cut(19, 14, 20, 18), FULL);
    }

    // ---- promise 7

    private static void partNumbers() {
        says(7, "BAD: piece, numbers");
        ScissorsBench bench = strips(3);
        due("piece -1", bench.part(-1, 0, 1, 1, 0), BAD);
        due("piece 3", bench.part(3, 0, 1, 1, 0), BAD);
        due("piece lowest", bench.part(LOWEST, 0, 1, 1, 0), BAD);
        due("piece highest", bench.part(HIGHEST, 0, 1, 1, 0), BAD);
        due("piece 0 of none", new ScissorsBench().part(0, 0, 1, 1, 0), BAD);
        says(7, "PIECES, 40 at most, numbered from 0");
        due("piece 40 of 40", strips(40).part(40, 0, 1, 1, 0), BAD);
        due("piece 39 of 40", strips(40).part(39, 0, 1, 1, 0), FULL);
        says(7, "BAD: piece, numbers");
        for (int out : OUT) {
            due("ax " + out, bench.part(0, out, 1, 1, 0), BAD);
            due("ay " + out, bench.part(0, 0, out, 0, 1), BAD);
        }
        due("piece 2", bench.part(2, 0, 1, 1, 0), 3);
        due("piece 0", bench.part(0, 0, 1, 1, 0), 4);
        due("ax 100000", bench.part(1, 100000, 1, 1, 0), 5);
        due("ax -100000", box(4, 4).part(0, -100000, 1, 1, 0), 1);
        due("ay 100000", box(4, 4).part(0, 1, 100000, 0, 1), 1);
        due("ay -100000", box(4, 4).part(0, 1, -100000, 0, 1), 1);
    }

    private static void partLine() {
        says(7, "dx, dy -1000 .. 1000, not both 0");
        due("dx 1000", box(4, 4).part(0, 0, 1, 1000, 0), 1);
        due("dx -1000", box(4, 4).part(0, 0, 1, -1000, 0), 1);
        due("dy 1000", box(4, 4).part(0, 1, 0, 0, 1000), 1);
        due("dy -1000", box(4, 4).part(0, 1, 0, 0, -1000), 1);
        due("dx and dy 1000", box(4, 4).part(0, 0, 0, 1000, 1000), 1);
        due("dx 1", box(4, 4).part(0, 0, 1, 1, 0), 1);
        due("dx -1", box(4, 4).part(0, 0, 1, -1, 0), 1);
        due("dy 1", box(4, 4).part(0, 1, 0, 0, 1), 1);
        due("dy -1", box(4, 4).part(0, 1, 0, 0, -1), 1);
        due("both 0", box(4, 4).part(0, 1, 1, 0, 0), BAD);
        int[] out = {-1001, 1001, LOWEST, HIGHEST};
        for (int step : out) {
            due("dx " + step, box(4, 4).part(0, 0, 1, step, 0), BAD);
            due("dy " + step, box(4, 4).part(0, 1, 0, 0, step), BAD);
            due("dx and dy " + step, box(4, 4).part(0, 0, 0, step, step), BAD);
        }

        says(7, "the second one may be beyond the bounds");
        Recipe all = () -> begun(100000, -1, -1, 1, -1, 1, 1, -1, 1);
        due("on the right", all.make().part(0, 100000, 0, 1, 0), 1);
        due("far on the right", all.make().part(0, 100000, 0, 1000, 0), 1);
        due("on the left", all.make().part(0, -100000, 0, -1, 0), 1);
        due("far on the left", all.make().part(0, -100000, 0, -1000, 0), 1);
        due("above", all.make().part(0, 0, 100000, 0, 1), 1);
        due("far below", all.make().part(0, 0, -100000, 0, -1000), 1);
        due("aslant", all.make().part(0, 100000, 100000, 1000, 1000), 1);
        due("beside all", all.make().part(0, 100000, 99999, 1, -1000), OFF);
        ScissorsBench bench = all.make();
        bench.part(0, 100000, 99000, 1000, 1000);
        dueCorners(bench, 0, 0, -100000, -100000, -99000, -100000, 100000, 99000, 100000, 100000, -100000, 100000);
        dueCorners(bench, 1, 0, -99000, -100000, 100000, -100000, 100000, 99000);
    }

    private static void partOneAlone() {
        says(7, "One PIECE is CUT: the new one's number.");
        ScissorsBench bench = strips(3);
        due("the second, of three that the line crosses", bench.part(1, 0, 1, 1, 0), 3);
        due("count(0)", bench.count(0), 4);
        dueCorners(bench, 0, 0, 0, 0, 1, 0, 1, 2, 0, 2);
        dueCorners(bench, 1, 0, 1, 1, 2, 1, 2, 2, 1, 2);
        dueCorners(bench, 2, 0, 2, 0, 40, 0, 40, 2, 2, 2);
        dueCorners(bench, 3, 0, 1, 0, 2, 0, 2, 1, 1, 1);
        due("one that others would be OFF of", fourStrips(0).part(2, 0, 1, 1, 0), 5);
        due("one that others would be FULL of", triangleAndRound().part(0, 19, 13, 0, 1), 2);
        bench = twoSpare();
        due("one of two spare ones", bench.part(1, 2, 0, 0, 1), 2);
        says(7, "both have its MOVE, and are not SPARE");
        due("about(0, 5): spare still", bench.about(0, 5), 1);
        due("about(1, 5)", bench.about(1, 5), 0);
        due("about(2, 5)", bench.about(2, 5), 0);
        bench = begun(1, 0, 0, 6, 0, 0, 4);
        bench.half(0, 5, 7);
        bench.part(0, 2, 0, 0, 1);
        dueMove(bench, 0, -1, 5, 7);
        dueMove(bench, 1, -1, 5, 7);
        dueCorners(bench, 1, 2, 0, 0, 3, 0, 3, 2, 0, 4);
    }

    private static void partNo() {
        says(7, "NO: the LINE does not CROSS it");
        ScissorsBench bench = strips(3);
        due("one beside the line", bench.part(0, 20, 0, 0, 1), NO);
        due("one whose side is on the line", bench.part(0, 1, 0, 0, 1), NO);
        due("one whose side is on the line, on the other side", bench.part(1, 1, 0, 0, 1), NO);
        due("one whose corner is on the line", bench.part(1, 2, 2, 1, -1), NO);
        due("the one that it crosses", bench.part(2, 20, 0, 0, 1), 3);
        due("count(3)", bench.count(3), 4);
    }

    private static void partFull() {
        says(7, "NO: the LINE does not CROSS it; FULL; OFF.");
        ScissorsBench bench = strips(39);
        due("the 40th", bench.part(38, 39, 0, 0, 1), 39);
        due("the 41st, of the first", bench.part(0, 0, 1, 1, 0), FULL);
        due("the 41st, of the last", bench.part(39, 0, 1, 1, 0), FULL);
        due("count(0)", bench.count(0), 40);
        bench = begun(4, ROUND);
        due("17 corners to the left", bench.part(0, 2, 0, 3, 1), FULL);
        due("17 corners to the right", bench.part(0, 8, 2, -3, -1), FULL);
        due("16 corners", bench.part(0, 0, 0, 4, 1), 1);
        due("OFF", box(4, 4).part(0, 0, 1, 3, 1), OFF);
        due("OFF, of a slanted side", begun(1, 0, 0, 6, 0, 0, 4).part(0, 2, 0, 0, 1), OFF);
    }

    private static void partFirstReason() {
        says(7, "of several the one that stands first here");
        due("BAD piece, not NO", strips(3).part(3, 0, 5, 1, 0), BAD);
        due("BAD dx, not NO", strips(3).part(0, 0, 5, 1001, 0), BAD);
        due("BAD ay, not NO", strips(3).part(0, 0, 100001, 1, 0), BAD);
        due("BAD both 0, not NO", strips(3).part(0, 9, 9, 0, 0), BAD);
        due("BAD piece, not FULL", strips(40).part(40, 0, 1, 1, 0), BAD);
        due("BAD dx, not FULL", strips(40).part(0, 0, 1, -1001, 0), BAD);
        due("BAD both 0, not FULL", strips(40).part(0, 0, 1, 0, 0), BAD);
        due("BAD dy, not OFF", box(4, 4).part(0, 0, 0, 1000, 1001), BAD);
        due("NO, not FULL of pieces", strips(40).part(0, 0, 2, 1, 0), NO);
        due("NO, not FULL of corners", begun(4, ROUND).part(0, 0, 0, 1, 0), NO);
        due("FULL of pieces, not OFF", strips(40).part(1, 0, 0, 3, 1), FULL);
        due("FULL of corners, not OFF", begun(4, ROUND).part(0, 2, 0, 5, 1), FULL);
    }

    private static void partRefused() {
        says(7, REFUSED);
        refused("piece 3", Checks::busy, b -> b.part(3, 0, 2, 1, 0), BAD);
        refused("both 0", Checks::busy, b -> b.part(0, 0, 2, 0, 0), BAD);
        refused("dx 1001", Checks::busy, b -> b.part(0, 0, 2, 1001, 0), BAD);
        refused("a line beside it", Checks::busy, b -> b.part(0, 0, 9, 1, 0), NO);
        refused("not whole", Checks::busy, b -> b.part(1, 8, 0, 3, 1), OFF);
        refused("the 41st", () -> strips(40), b -> b.part(5, 0, 1, 1, 0), FULL);
        refused("17 corners", EdgesOfCutsTest::triangleAndRound, b -> b.part(1, 19, 14, 1, 4), FULL);
    }
}
