/** Promises 23 to 26, each sentence that names an edge, under that sentence. */
public final class EdgesOfPlansTest extends Checks {
    private static final String REFUSED = "A call that is refused answers one of BAD, NO, FULL, OFF, "
        + "of several the one that stands first here, and changes nothing";
    private static final String FIRST = "It is refused at the first p and q (in that order) for which, "
        + "of these the first";
    private static final int[] NO_SHELVES = {-1, 4, LOWEST, HIGHEST};

    public static void main(String[] args) {
        shelves();
        shelveAll();
        shelveIsNoChange();
        planStays();
        fetch();
        fetchAll();
        thirdShelves();
        thirdOfNone();
        thirdOrder();
        thirdTouching();
        thirdMoves();
        thirdSpareOnes();
        thirdRing();
        thirdOff();
        thirdFullOfCorners();
        thirdFullOfPieces();
        thirdFirstReason();
        thirdFirstPair();
        thirdBounds();
        thirdRefused();
        counts();
        countEnds();
        Due.end();
    }

    private static ScissorsBench twoTriangles() {
        ScissorsBench bench = box(4, 4);
        bench.cut(0, 0, 4, 4);
        return bench;
    }

    // ---- promise 23

    private static void shelves() {
        says(23, "SHELVES 0 .. 3 have each a PLAN, or none");
        ScissorsBench bench = box(4, 4);
        for (int k : NO_SHELVES) {
            due("shelve(" + k + ")", bench.shelve(k), BAD);
            due("shelve(" + k + ") without pieces", new ScissorsBench().shelve(k), BAD);
        }
        due("count(5)", bench.count(5), 0);
        for (int k = 0; k < 4; k++) {
            due("fetch(" + k + ")", bench.fetch(k), NO);
            due("shelve(" + k + ")", bench.shelve(k), 1);
            due("count(5)", bench.count(5), k + 1);
        }
        due("shelve(0) again", bench.shelve(0), 1);
        due("count(5)", bench.count(5), 4);
        refused("shelve(-1)", Checks::busy, b -> b.shelve(-1), BAD);
        refused("shelve(4)", Checks::busy, b -> b.shelve(4), BAD);
    }

    private static void shelveAll() {
        says(23, "All PIECES (also if there are none) are laid on SHELF k as a PLAN (they stay): how many. BAD.");
        ScissorsBench bench = new ScissorsBench();
        due("shelve(2) of none", bench.shelve(2), 0);
        due("count(5)", bench.count(5), 1);
        due("fetch(2)", bench.fetch(2), 0);
        bench = strips(40);
        due("shelve(3) of 40", bench.shelve(3), 40);
        due("they stay", bench.count(0), 40);
        dueCorners(bench, 39, 0, 39, 0, 40, 0, 40, 2, 39, 2);
        bench.begin(0);
        due("shelve(3) of one", bench.shelve(3), 1);
        due("fetch(3)", bench.fetch(3), 1);
        bench.undo();
        bench.undo();
        due("count(0)", bench.count(0), 40);
        bench.join(0, 1);
        due("shelve(3) of 39", bench.shelve(3), 39);
        bench.begin(0);
        bench.undo();
        bench.undo();
        due("count(0)", bench.count(0), 40);
        due("fetch(3) of 39", bench.fetch(3), 39);
        dueCorners(bench, 0, 0, 0, 0, 2, 0, 2, 2, 0, 2);
        dueCorners(bench, 38, 0, 39, 0, 40, 0, 40, 2, 39, 2);
        due("isOf(39, 0)", bench.isOf(39, 0), BAD);
    }

    private static void shelveIsNoChange() {
        says(23, "CHANGES are the calls of begin, cut, part, slide, half, join, aside, back, fetch, third "
            + "that are not refused");
        ScissorsBench bench = twoTriangles();
        bench.slide(0, 1, 1);
        bench.undo();
        bench.shelve(0);
        due("count(3)", bench.count(3), 2);
        due("count(4)", bench.count(4), 1);
        due("redo()", bench.redo(), 0);
        bench.shelve(0);
        due("undo()", bench.undo(), 2);
        due("count(5): it is not taken back", bench.count(5), 1);
        due("fetch(0)", bench.fetch(0), 2);
        dueMove(bench, 0, 1, 1, 1);
    }

    private static void planStays() {
        says(23, "all PIECES as they were as it was laid there");
        ScissorsBench bench = twoTriangles();
        bench.aside(0, 1);
        bench.half(1, 9, 9);
        bench.shelve(1);
        bench.aside(0, 0);
        bench.aside(1, 1);
        bench.slide(0, 7, 7);
        bench.back();
        bench.cut(2, 0, 2, 4);
        bench.join(0, 2);
        told(bench, 0, 1, 0, 0, 9, 0, 9, 9, 0, 9);
        bench.begin(0);
        for (int i = 0; i < 9; i++) {
            bench.slide(0, 1, 1);
        }
        for (int i = 0; i < 2; i++) {
            due("fetch(1)", bench.fetch(1), 2);
            dueMove(bench, 0, 1, 0, 0);
            dueMove(bench, 1, -1, 9, 9);
            due("about(0, 5)", bench.about(0, 5), 1);
            due("about(1, 5)", bench.about(1, 5), 0);
            dueCorners(bench, 0, 2, 0, 0, 4, 4, 0, 4);
            dueCorners(bench, 1, 2, 0, 0, 4, 0, 4, 4);
            dueCorners(bench, 1, 0, 5, 5, 9, 9, 5, 9);
            bench.slide(0, 5, 5);
            bench.cut(2, 0, 2, 20);
            bench.aside(0, 0);
            bench.third(1);
        }
        bench.shelve(0);
        bench.fetch(1);
        bench.slide(1, 1, 0);
        bench.shelve(2);
        due("fetch(1) beside others", bench.fetch(1), 2);
        dueMove(bench, 1, -1, 9, 9);
        due("fetch(2)", bench.fetch(2), 2);
        dueMove(bench, 1, -1, 10, 9);
    }

    // ---- promise 24

    private static void fetch() {
        says(24, "BAD; NO: there is none.");
        ScissorsBench bench = box(4, 4);
        bench.shelve(3);
        for (int k : NO_SHELVES) {
            due("fetch(" + k + ")", bench.fetch(k), BAD);
        }
        for (int k = 0; k < 3; k++) {
            due("fetch(" + k + ")", bench.fetch(k), NO);
        }
        due("fetch(3)", bench.fetch(3), 1);
        due("shelve(0)", bench.shelve(0), 1);
        due("fetch(0)", bench.fetch(0), 1);
        refused("fetch(-1)", Checks::busy, b -> b.fetch(-1), BAD);
        refused("fetch(4)", Checks::busy, b -> b.fetch(4), BAD);
        refused("fetch(1)", Checks::busy, b -> b.fetch(1), NO);
    }

    private static void fetchAll() {
        says(24, "The PLAN of SHELF k is the PIECES (a CHANGE, too): how many.");
        ScissorsBench bench = new ScissorsBench();
        bench.shelve(0);
        told(bench, 0, 1, 0, 0, 40, 0, 40, 2, 0, 2);
        bench.begin(0);
        due("fetch of none", bench.fetch(0), 0);
        due("count(0)", bench.count(0), 0);
        due("count(3)", bench.count(3), 2);
        due("undo()", bench.undo(), 1);
        due("count(0)", bench.count(0), 1);
        due("redo()", bench.redo(), 0);
        due("count(0)", bench.count(0), 0);
        bench.undo();
        for (int x = 1; x < 40; x++) {
            bench.cut(x, 0, x, 2);
        }
        bench.slide(39, 5, 5);
        bench.shelve(0);
        bench.begin(0);
        due("fetch of 40", bench.fetch(0), 40);
        dueMove(bench, 39, 1, 5, 5);
        due("fetch of 40, of 40", bench.fetch(0), 40);
        due("count(0)", bench.count(0), 40);
        due("count(5): the PLAN stays", bench.count(5), 1);
    }

    // ---- promise 25

    private static void thirdShelves() {
        says(25, "BAD: k; NO: there is none");
        ScissorsBench bench = box(4, 4);
        bench.shelve(3);
        for (int k : NO_SHELVES) {
            due("third(" + k + ")", bench.third(k), BAD);
        }
        for (int k = 0; k < 3; k++) {
            due("third(" + k + ")", bench.third(k), NO);
        }
        due("third(3)", bench.third(3), 1);
        bench.shelve(0);
        due("third(0)", bench.third(0), 1);
        due("third(1) without pieces", new ScissorsBench().third(1), NO);
    }

    private static void thirdOfNone() {
        says(25, "The PIECES are THE THIRD of themselves and the PLAN of SHELF k: how many.");
        ScissorsBench bench = new ScissorsBench();
        bench.shelve(0);
        due("none and none", bench.third(0), 0);
        due("count(3): a CHANGE", bench.count(3), 1);
        told(bench, 0, 1, 0, 0, 4, 0, 4, 4, 0, 4);
        bench.begin(0);
        bench.shelve(1);
        due("one and none", bench.third(0), 0);
        due("count(0)", bench.count(0), 0);
        due("none and one", bench.third(1), 0);
        bench.begin(0);
        bench.slide(0, 100, 0);
        due("far from one another", bench.third(1), 0);
        due("count(0)", bench.count(0), 0);
        due("undo()", bench.undo(), 5);
        dueMove(bench, 0, 1, 100, 0);
    }

    private static void thirdOrder() {
        says(25, "for each PIECE p (SPARE ones, too), by its number, and each one q of the PLAN, by its");
        ScissorsBench bench = box(4, 4);
        bench.cut(2, 4, 2, 0);
        bench.shelve(0);
        bench.begin(0);
        bench.cut(4, 2, 0, 2);
        due("two and two", bench.third(0), 4);
        dueCorners(bench, 0, 0, 2, 0, 4, 0, 4, 2, 2, 2);
        dueCorners(bench, 1, 0, 0, 0, 2, 0, 2, 2, 0, 2);
        dueCorners(bench, 2, 0, 2, 2, 4, 2, 4, 4, 2, 4);
        dueCorners(bench, 3, 0, 0, 2, 2, 2, 2, 4, 0, 4);
    }

    private static void thirdTouching() {
        says(25, "the RING of all that lies in p's PLACE and in q's ORIGIN, if that has an inside");
        int[][] beside = {{4, 0}, {-4, 0}, {0, 4}, {0, -4}, {4, 4}, {-4, -4}, {4, -1}, {-2, 4}, {5, 0}};
        int[][] upon = {{3, 0}, {-3, 0}, {0, 3}, {3, 3}, {-3, -3}, {0, 0}};
        for (int[] by : beside) {
            ScissorsBench bench = box(4, 4);
            bench.shelve(0);
            bench.slide(0, by[0], by[1]);
            due("slid by " + by[0] + ", " + by[1], bench.third(0), 0);
        }
        for (int[] by : upon) {
            ScissorsBench bench = box(4, 4);
            bench.shelve(0);
            bench.slide(0, by[0], by[1]);
            due("slid by " + by[0] + ", " + by[1], bench.third(0), 1);
            due("about(0, 1)", bench.about(0, 1), 2 * (4 - Math.abs(by[0])) * (4 - Math.abs(by[1])));
        }
        ScissorsBench bench = twoTriangles();
        bench.shelve(0);
        bench.slide(0, -4, -4);
        bench.slide(1, 4, 4);
        due("corners on corners", bench.third(0), 0);
        bench = twoTriangles();
        bench.shelve(0);
        bench.slide(0, 1, 1);
        bench.slide(1, 1, 1);
        due("sides on the same line", bench.third(0), 2);

        says(25, "p's PLACE and in q's ORIGIN");
        bench = box(4, 4);
        bench.slide(0, 50, 50);
        bench.shelve(0);
        due("the PLACE of the one, as that of the other", bench.third(0), 0);
        bench.begin(0);
        due("the ORIGIN of the one, as that of the other", bench.third(0), 1);
        dueMove(bench, 0, 1, 50, 50);
        bench.slide(0, -50, -50);
        due("and again", bench.third(0), 1);
        dueMove(bench, 0, 1, 50, 50);
        dueCorners(bench, 0, 2, 0, 0, 4, 0, 4, 4, 0, 4);
    }

    private static void thirdMoves() {
        says(25, "is the ORIGIN, by p's MOVE turned back, of a new PIECE, whose MOVE is first p's, then q's");
        Recipe plan = () -> {
            ScissorsBench bench = begun(1, 0, 0, 4, 0, 0, 4);
            bench.shelve(0);
            bench.slide(0, 20, 30);
            bench.shelve(1);
            bench.half(0, 0, 0);
            bench.shelve(2);
            bench.back();
            return bench;
        };
        ScissorsBench bench = plan.make();
        bench.slide(0, 1, 1);
        due("slid, slid", bench.third(1), 1);
        dueMove(bench, 0, 1, 21, 31);
        dueCorners(bench, 0, 2, 0, 0, 2, 0, 0, 2);
        dueCorners(bench, 0, 0, 21, 31, 23, 31, 21, 33);
        bench = plan.make();
        bench.slide(0, 1, 1);
        due("slid, turned", bench.third(2), 1);
        dueMove(bench, 0, -1, -21, -31);
        dueCorners(bench, 0, 2, 0, 0, 2, 0, 0, 2);
        dueCorners(bench, 0, 0, -23, -31, -21, -33, -21, -31);
        bench = plan.make();
        bench.half(0, 4, 3);
        due("turned, slid", bench.third(1), 1);
        dueMove(bench, 0, -1, 24, 33);
        dueCorners(bench, 0, 2, 0, 3, 3, 0, 4, 0, 1, 3);
        bench = plan.make();
        bench.half(0, 3, 3);
        due("turned, slid", bench.third(1), 1);
        dueCorners(bench, 0, 2, 0, 2, 2, 0, 3, 0, 3, 1, 1, 3, 0, 3);
        bench = plan.make();
        bench.half(0, 3, 3);
        due("turned, turned", bench.third(2), 1);
        dueMove(bench, 0, 1, -23, -33);
        dueCorners(bench, 0, 2, 0, 2, 2, 0, 3, 0, 3, 1, 1, 3, 0, 3);
        dueCorners(bench, 0, 0, -23, -31, -21, -33, -20, -33, -20, -32, -22, -30, -23, -30);
        bench = plan.make();
        bench.half(0, 3, 3);
        due("turned, and not moved", bench.third(0), 1);
        dueMove(bench, 0, -1, 3, 3);
    }

    private static void thirdSpareOnes() {
        says(25, "These are the PIECES then, none SPARE.");
        for (int spare = 0; spare < 4; spare++) {
            ScissorsBench bench = begun(1, 0, 0, 4, 0, 0, 4);
            bench.aside(0, spare % 2);
            bench.shelve(0);
            bench.aside(0, spare / 2);
            due("spare ones, way " + spare, bench.third(0), 1);
            due("about(0, 5)", bench.about(0, 5), 0);
            due("count(6)", bench.count(6), 16);
            due("undo()", bench.undo(), 3);
            due("about(0, 5) before it", bench.about(0, 5), spare / 2);
            due("fetch(0)", bench.fetch(0), 1);
            due("about(0, 5) of the PLAN", bench.about(0, 5), spare % 2);
        }
    }

    private static void thirdRing() {
        says(25, "A RING is 3 to 16 corners, told against the clock, without inward or straight corners, "
            + "its first one being the least (by x, then by y).");
        dueThird(new int[] {0, 0, 8, 0, 8, 8, 0, 8}, new int[] {4, -4, 12, 4, 4, 12, -4, 4},
            0, 0, 8, 0, 8, 8, 0, 8);
        dueThird(new int[] {4, -4, 12, 4, 4, 12, -4, 4}, new int[] {0, 0, 8, 0, 8, 8, 0, 8},
            0, 0, 8, 0, 8, 8, 0, 8);
        dueThird(new int[] {0, 0, 8, 0, 8, 8, 0, 8}, new int[] {4, -2, 10, 4, 4, 10, -2, 4},
            0, 2, 2, 0, 6, 0, 8, 2, 8, 6, 6, 8, 2, 8, 0, 6);
        dueThird(new int[] {0, 0, 8, 0, 8, 8, 0, 8}, new int[] {0, 4, 4, 0, 8, 4, 4, 8}, 0, 4, 4, 0, 8, 4, 4, 8);
        dueThird(new int[] {0, 0, 8, 0, 8, 8, 0, 8}, new int[] {-8, 0, 8, 0, 8, 2, -8, 2}, 0, 0, 8, 0, 8, 2, 0, 2);
        dueThird(new int[] {0, 0, 8, 0, 8, 8, 0, 8}, new int[] {2, 0, 6, 0, 6, 8, 2, 8}, 2, 0, 6, 0, 6, 8, 2, 8);
        dueThird(new int[] {0, 0, 8, 0, 8, 8}, new int[] {0, 0, 8, 8, 0, 8});
        dueThird(new int[] {0, 0, 8, 0, 8, 8}, new int[] {0, 0, 8, 0, 0, 8}, 0, 0, 8, 0, 4, 4);
        dueThird(new int[] {0, 0, 8, 0, 8, 8}, new int[] {0, -1, 9, 8, 0, 8}, 1, 0, 8, 7, 8, 8, 0, 0);
        dueThird(new int[] {2, 2, 3, 2, 3, 3}, new int[] {-50, -50, 50, -50, 50, 50, -50, 50}, 2, 2, 3, 2, 3, 3);
        dueThird(new int[] {-50, -50, 50, -50, 50, 50, -50, 50}, new int[] {2, 2, 3, 2, 3, 3}, 2, 2, 3, 2, 3, 3);
        dueThird(ROUND, ROUND, ROUND);
    }

    /** The third of a figure and of another one: corners, none if there is nothing in both. */
    private static void dueThird(int[] one, int[] other, int... want) {
        ScissorsBench bench = begun(1, other);
        bench.shelve(0);
        told(bench, 1, 1, one);
        bench.begin(1);
        due("third(0)", bench.third(0), want.length == 0 ? 0 : 1);
        if (want.length > 0) {
            int least = 0;
            for (int i = 2; i < want.length; i += 2) {
                boolean less = want[i] < want[least] || (want[i] == want[least] && want[i + 1] < want[least + 1]);
                least = less ? i : least;
            }
            int[] turned = new int[want.length];
            for (int i = 0; i < want.length; i++) {
                turned[i] = want[(least + i) % want.length];
            }
            dueCorners(bench, 0, 0, turned);
            dueMove(bench, 0, 1, 0, 0);
        }
    }

    private static long thirdOf(int[] one, int[] other) {
        ScissorsBench bench = begun(1, other);
        bench.shelve(0);
        told(bench, 1, 1, one);
        bench.begin(1);
        return bench.third(0);
    }

    private static void dueBothWays(String told, int[] one, int[] other, long want) {
        due(told, thirdOf(one, other), want);
        due(told + ", the other way", thirdOf(other, one), want);
    }

    private static void thirdOff() {
        says(25, "OFF: a corner of the RING is not of whole GRAINS");
        int[] square = {0, 0, 8, 0, 8, 8, 0, 8};
        dueBothWays("all whole", square, new int[] {4, -4, 12, 4, 4, 12, -4, 4}, 1);
        dueBothWays("y not whole", square, new int[] {-3, 1, 6, 4, -3, 7}, 1);
        dueBothWays("y not whole, by a third", square, new int[] {-1, 1, 5, 3, -1, 5}, OFF);
        dueBothWays("y not whole, by half a grain", square, new int[] {-1, 1, 5, 4, -1, 7}, OFF);
        dueBothWays("x not whole", square, new int[] {1, -1, 7, -1, 4, 5}, OFF);
        dueBothWays("neither whole", new int[] {0, 0, 1, 0, 0, 1}, new int[] {0, 0, 1, 0, 1, 1}, OFF);
        dueBothWays("one corner of four not whole", square, new int[] {6, -3, 12, 9, 6, 9}, OFF);
        dueBothWays("sides that would cross outside", square, new int[] {1, 2, 2, 1, 3, 6}, 1);
        dueBothWays("sides that meet at no whole place, but of rings beside one another",
            new int[] {0, 0, 3, 1, 0, 1}, new int[] {0, 0, 3, 0, 3, 1}, 0);
        dueBothWays("a corner on a side that has no other whole places",
            new int[] {0, 0, 2, 0, 2, 1}, new int[] {0, 0, 4, 2, 0, 2}, 0);
        int[] below = {-8, -8, 0, -8, 0, 0, -8, 0};
        dueBothWays("below 0, whole", below, new int[] {-12, -4, -4, -12, 4, -4, -4, 4}, 1);
        dueBothWays("below 0, half a grain", below, new int[] {-9, -7, -3, -4, -9, -1}, OFF);
        dueBothWays("at the bounds, whole", new int[] {-100000, -100000, 100000, -100000, 100000, 100000},
            new int[] {-100000, 100000, 100000, -100000, 100000, 100000}, 1);
        dueBothWays("at the bounds, half a grain", new int[] {-100000, -100000, 100000, -100000, 100000, 100000},
            new int[] {-100000, 99999, 100000, -100000, 100000, 99999}, OFF);
    }

    private static int[] times(int scale, int... corners) {
        int[] times = new int[corners.length];
        for (int i = 0; i < corners.length; i++) {
            times[i] = corners[i] * scale;
        }
        return times;
    }

    private static void thirdFullOfCorners() {
        says(25, "FULL: it has more than 16 corners, or would be the 41st");
        int[] round = times(4, ROUND);
        dueBothWays("16 corners", round, new int[] {-100, -100, 100, -100, 100, 100, -100, 100}, 1);
        dueBothWays("16 corners, one cut off at another one", round,
            new int[] {-100, -25, 100, 25, 100, 100, -100, 100}, 1);
        dueBothWays("17 corners", round, new int[] {-100, -34, 200, 66, 200, 100, -100, 100}, FULL);
        dueBothWays("18 corners", round, new int[] {-100, -34, 14, 4, 17, 6, 40, 98, -100, 98}, FULL);
        int[] one = {29, 5, 25, 17, 17, 25, 5, 29, -5, 29, -17, 25, -25, 17, -29, 5,
            -29, -5, -25, -17, -17, -25, -5, -29, 5, -29, 17, -25, 25, -17, 29, -5};
        int[] other = {30, 0, 27, 12, 22, 22, 12, 27, 0, 30, -12, 27, -22, 22, -27, 12,
            -30, 0, -27, -12, -22, -22, -12, -27, 0, -30, 12, -27, 22, -22, 27, -12};
        dueBothWays("32 corners, as many as can be", one, other, FULL);
        dueBothWays("16 corners in 16", times(2, one), other, 1);
        dueBothWays("16 corners of 15 and 4", java.util.Arrays.copyOf(round, 30),
            new int[] {-100, -34, 200, 66, 200, 100, -100, 100}, 1);
    }

    private static void thirdFullOfPieces() {
        says(25, "FULL: it has more than 16 corners, or would be the 41st");
        ScissorsBench bench = strips(40);
        bench.shelve(0);
        due("40 of 40", bench.third(0), 40);
        bench.begin(0);
        due("40 of one and 40", bench.third(0), 40);
        bench.begin(0);
        bench.cut(0, 1, 40, 1);
        due("80 of two and 40", bench.third(0), FULL);
        bench.slide(1, 0, -1);
        due("40 of two and 40, the second beside them", bench.third(0), 40);
        bench.begin(0);
        bench.cut(0, 1, 40, 1);
        bench.slide(0, 0, 9);
        due("40 of two and 40, the first away from them", bench.third(0), 40);
        bench.begin(0);
        bench.cut(0, 1, 40, 1);
        bench.slide(1, 39, -1);
        due("40 and a corner", bench.third(0), 40);
        bench.begin(0);
        bench.cut(0, 1, 40, 1);
        bench.slide(1, 39, 0);
        due("40 and one", bench.third(0), FULL);
        bench.slide(1, 1, 0);
        due("40 and a side", bench.third(0), 40);
    }

    private static void thirdFirstReason() {
        says(25, "OFF, FULL, BAD: as told (in that order there).");
        int[] round = times(4, ROUND);
        dueBothWays("OFF, not FULL of corners", round,
            new int[] {2, 0, 12, 2, 100, 100, -100, 100, -100, -20}, OFF);
        ScissorsBench bench = strips(40);
        bench.shelve(0);
        bench.begin(0);
        bench.cut(0, 1, 40, 1);
        bench.part(1, 40, 0, -40, 1);
        due("OFF, not FULL as the 41st", bench.third(0), OFF);
        bench.begin(0);
        bench.cut(0, 1, 40, 1);
        bench.part(1, 40, 0, -39, 1);
        due("FULL as the 41st, before one that is OFF", bench.third(0), FULL);
        bench.begin(0);
        bench.cut(40, 1, 0, 2);
        due("OFF before there are 41", bench.third(0), OFF);
    }

    /**
     * A triangle that is not whole with the right part of the plan, and a ring that has 17 corners with the left part.
     * The one or the other is piece 0; the one or the other part is first in the plan.
     */
    private static ScissorsBench twoReasons(boolean roundFirst, boolean rightFirst) {
        ScissorsBench bench = begun(1, -100, -98, 2000, -98, 2000, 102, -100, 102);
        if (rightFirst) {
            bench.cut(20, 18, 19, 14);
        } else {
            bench.cut(19, 14, 20, 18);
        }
        bench.shelve(0);
        told(bench, 1, 4, ROUND);
        bench.begin(1);
        if (roundFirst) {
            bench.cut(0, 0, 8, 2);
        } else {
            bench.cut(8, 2, 0, 0);
        }
        bench.slide(roundFirst ? 1 : 0, 1998, 0);
        return bench;
    }

    private static void thirdFirstPair() {
        says(25, FIRST);
        due("0 and 1 OFF, 1 and 0 FULL", twoReasons(false, false).third(0), OFF);
        due("0 and 0 OFF, 1 and 1 FULL", twoReasons(false, true).third(0), OFF);
        due("0 and 1 FULL, 1 and 0 OFF", twoReasons(true, true).third(0), FULL);
        due("0 and 0 FULL, 1 and 1 OFF", twoReasons(true, false).third(0), FULL);
        ScissorsBench bench = twoReasons(true, false);
        due("corners of 0", bench.about(0, 0), 16);
        bench.slide(1, -1000, 0);
        due("FULL alone", bench.third(0), FULL);
        bench = twoReasons(false, false);
        due("corners of 0", bench.about(0, 0), 3);
        bench.slide(1, 1000, 0);
        due("OFF alone", bench.third(0), OFF);
        bench.slide(0, -1000, 0);
        due("neither", bench.third(0), 2);
    }

    private static void thirdBounds() {
        says(25, "BAD: a corner of its PLACE would be beyond the bounds");
        ScissorsBench bench = begun(1, -100000, 0, -99996, 0, -99996, 4, -100000, 4);
        bench.slide(0, 199996, 0);
        bench.shelve(0);
        bench.back();
        due("to the bounds", bench.third(0), 1);
        dueMove(bench, 0, 1, 199996, 0);
        dueCorners(bench, 0, 0, 99996, 0, 100000, 0, 100000, 4, 99996, 4);
        bench.begin(0);
        bench.slide(0, 2, 0);
        due("to the bounds, of what is in both", bench.third(0), 1);
        dueMove(bench, 0, 1, 199998, 0);
        dueCorners(bench, 0, 2, -100000, 0, -99998, 0, -99998, 4, -100000, 4);
        dueCorners(bench, 0, 0, 99998, 0, 100000, 0, 100000, 4, 99998, 4);
    }

    private static void thirdRefused() {
        says(25, REFUSED);
        refused("third(-1)", Checks::busy, b -> b.third(-1), BAD);
        refused("third(4)", Checks::busy, b -> b.third(4), BAD);
        refused("third(1)", Checks::busy, b -> b.third(1), NO);
        Recipe off = () -> {
            ScissorsBench bench = box(1, 1);
            bench.cut(0, 1, 1, 0);
            bench.shelve(1);
            bench.begin(0);
            bench.cut(0, 0, 1, 1);
            bench.slide(0, 1, 1);
            bench.undo();
            return bench;
        };
        refused("not whole", off, b -> b.third(1), OFF);
        Recipe full = () -> {
            ScissorsBench bench = strips(40);
            bench.shelve(2);
            bench.begin(0);
            bench.cut(0, 1, 40, 1);
            bench.slide(0, 50, 50);
            bench.undo();
            return bench;
        };
        refused("the 41st", full, b -> b.third(2), FULL);
        refused("17 corners, behind one that is whole", () -> {
            ScissorsBench bench = twoReasons(true, true);
            bench.slide(1, 50, 50);
            bench.undo();
            return bench;
        }, b -> b.third(0), FULL);
        refused("not whole, behind one that is whole", () -> twoReasons(false, true), b -> b.third(0), OFF);
    }

    // ---- promise 26

    private static void counts() {
        says(26, "0 PIECES, 1 corners in hand, 2 FIGURES, 3 CHANGES that are kept, 4 that can be done again, 5 PLANS, "
            + "6 twice the area of all PIECES that are not SPARE. BAD.");
        int[] noWhats = {-1, 7, LOWEST, HIGHEST};
        for (int what : noWhats) {
            due("count(" + what + ")", box(4, 4).count(what), BAD);
            due("count(" + what + ") of a new one", new ScissorsBench().count(what), BAD);
            refused("count(" + what + ")", Checks::busy, b -> b.count(what), BAD);
        }
        for (int what = 0; what <= 6; what++) {
            due("count(" + what + ") of a new one", new ScissorsBench().count(what), 0);
        }
        long[] want = {3, 3, 3, 4, 2, 2, 48};
        ScissorsBench bench = busy();
        for (int what = 0; what <= 6; what++) {
            due("count(" + what + ")", bench.count(what), want[what]);
        }
    }

    private static void countEnds() {
        says(26, "0 PIECES, 1 corners in hand, 2 FIGURES, 3 CHANGES that are kept, 4 that can be done again, 5 PLANS");
        due("PIECES: 40", strips(40).count(0), 40);
        due("CHANGES: 6 of 40", strips(40).count(3), 6);
        ScissorsBench bench = strips(8);
        for (int i = 1; i <= 7; i++) {
            bench.undo();
            due("CHANGES behind " + i + " undo()", bench.count(3), Math.max(6 - i, 0));
            due("to be done again behind " + i + " undo()", bench.count(4), Math.min(i, 6));
        }
        bench.begin(0);
        due("CHANGES", bench.count(3), 1);
        due("to be done again", bench.count(4), 0);
        bench = new ScissorsBench();
        for (int i = 1; i <= 17; i++) {
            bench.corner(0, i);
            due("corners in hand", bench.count(1), Math.min(i, 16));
        }
        bench.figure(9);
        due("corners in hand behind BAD", bench.count(1), 16);
        bench.figure(0);
        due("corners in hand behind NO", bench.count(1), 0);
        due("FIGURES", bench.count(2), 0);
        for (int k = 4; k >= 0; k--) {
            told(bench, k, 1, 0, 0, 4, 0, 0, 4);
            due("FIGURES", bench.count(2), 5 - k);
        }
        told(bench, 2, 1, 0, 0, 4, 0, 0, 4);
        told(bench, 2, 1, 0, 0, 4, 0);
        due("FIGURES: one told again", bench.count(2), 5);
        for (int k = 3; k >= 0; k--) {
            bench.shelve(k);
            bench.shelve(k);
            due("PLANS", bench.count(5), 4 - k);
        }

        says(26, "6 twice the area of all PIECES that are not SPARE");
        bench = twoTriangles();
        due("both", bench.count(6), 32);
        bench.aside(0, 1);
        due("one", bench.count(6), 16);
        bench.aside(1, 1);
        due("none", bench.count(6), 0);
        bench.aside(0, 0);
        bench.half(0, 4, 4);
        bench.slide(0, -9, -9);
        due("one that is moved", bench.count(6), 16);
        bench = begun(100000, -1, -1, 1, -1, 1, 1, -1, 1);
        due("the greatest", bench.count(6), 80000000000L);
        bench.cut(-100000, -100000, 100000, 100000);
        bench.half(0, 0, 0);
        due("the greatest, on one another", bench.count(6), 80000000000L);
    }
}
