/** Promises 13 and 14, and which calls are CHANGES: each sentence that names an edge, under that sentence. */
public final class EdgesOfChangesTest extends Checks {
    private static final String CHANGES = "CHANGES are the calls of begin, cut, part, slide, half, join, aside, back, "
        + "fetch, third that are not refused (also if they change nothing)";
    private static final String LATEST = "The latest 6 are kept.";

    public static void main(String[] args) {
        changes();
        changesOfNothing();
        noChanges();
        undoAtTheEnd();
        undoAllThatIsKept();
        seventhChange();
        manyChanges();
        redoAtTheEnd();
        otherChange();
        noOtherChange();
        keptBehindUndo();
        figuresStay();
        refusedBoth();
        Due.end();
    }

    /** Two pieces of one figure, side by side, and as a plan on shelf 0; two changes. */
    private static ScissorsBench two() {
        ScissorsBench bench = box(8, 4);
        bench.cut(4, 0, 4, 4);
        bench.shelve(0);
        return bench;
    }

    private static ScissorsBench triangle() {
        return begun(1, 0, 0, 4, 0, 0, 3);
    }

    private static void changes() {
        says(13, CHANGES);
        takenBack("begin", Checks::busy, b -> b.begin(4));
        takenBack("cut", Checks::busy, b -> b.cut(0, 2, 1, 2));
        takenBack("part", Checks::busy, b -> b.part(0, 0, 2, 1, 0));
        takenBack("slide", Checks::busy, b -> b.slide(1, 3, 4));
        takenBack("half", Checks::busy, b -> b.half(2, 3, 4));
        takenBack("join", EdgesOfChangesTest::two, b -> b.join(0, 1));
        takenBack("aside, on 1", Checks::busy, b -> b.aside(1, 1));
        takenBack("aside, on 0", Checks::busy, b -> b.aside(2, 0));
        takenBack("back", Checks::busy, b -> b.back());
        takenBack("fetch", Checks::busy, b -> b.fetch(0));
        takenBack("fetch of none", Checks::busy, b -> b.fetch(3));
        takenBack("third", Checks::busy, b -> b.third(0));
        takenBack("third of none", Checks::busy, b -> b.third(3));
        says(14, "redo() does it again (PIECES are as they were behind it)");
        takenBack("cut to 40", () -> strips(20), b -> b.cut(0, 1, 40, 1));
        takenBack("join of 40", () -> strips(40), b -> b.join(1, 0));
        takenBack("begin behind 40", () -> strips(40), b -> b.begin(0));
    }

    private static void changesOfNothing() {
        says(13, "(also if they change nothing)");
        takenBack("begin of the same", () -> box(4, 4), b -> b.begin(0));
        takenBack("cut of none", Checks::busy, b -> b.cut(0, 50, 1, 50));
        takenBack("cut without pieces", ScissorsBench::new, b -> b.cut(0, 0, 1, 1));
        takenBack("slide by (0, 0)", Checks::busy, b -> b.slide(1, 0, 0));
        takenBack("aside of one that is not, on 0", EdgesOfChangesTest::triangle, b -> b.aside(0, 0));
        takenBack("aside of one that is, on 1", Checks::busy, b -> b.aside(2, 1));
        takenBack("aside of four corners, on 0", () -> box(4, 4), b -> b.aside(0, 0));
        takenBack("back of none", () -> box(4, 4), b -> b.back());
        takenBack("back without pieces", ScissorsBench::new, b -> b.back());
        takenBack("fetch of the same", EdgesOfChangesTest::two, b -> b.fetch(0));
        takenBack("third of the same", EdgesOfChangesTest::two, b -> b.third(0));
        Recipe plan = () -> {
            ScissorsBench bench = new ScissorsBench();
            bench.shelve(1);
            return bench;
        };
        takenBack("fetch of none, without pieces", plan, b -> b.fetch(1));
        takenBack("third of none, without pieces", plan, b -> b.third(1));
    }

    private static void noChanges() {
        says(13, "CHANGES are the calls of begin, cut, part, slide, half, join, aside, back, fetch, third "
            + "that are not refused");
        ScissorsBench bench = two();
        bench.slide(0, 1, 1);
        bench.undo();
        bench.shelve(3);
        told(bench, 2, 1, 0, 0, 4, 0, 0, 4);
        bench.corner(1, 1);
        due("count(3)", bench.count(3), 2);
        due("count(4)", bench.count(4), 1);
        due("redo() behind what is no CHANGE", bench.redo(), 0);
        dueMove(bench, 0, 1, 1, 1);

        leavesAll("area", Checks::busy, b -> b.area(1));
        leavesAll("isOf", Checks::busy, b -> b.isOf(2, 4));
        leavesAll("about", Checks::busy, b -> b.about(2, 1));
        leavesAll("at", Checks::busy, b -> b.at(1, 2, 0));
        leavesAll("over", Checks::busy, b -> b.over(1, 2));
        leavesAll("find", Checks::busy, b -> b.find(5, 1));
        leavesAll("covers", Checks::busy, b -> b.covers(0));
        leavesAll("sums", Checks::busy, b -> b.sums());
        leavesAll("sum", Checks::busy, b -> b.sum(0, 2));
        leavesAll("count", Checks::busy, b -> b.count(6));
    }

    private static void undoAtTheEnd() {
        says(13, "The latest CHANGE that is kept is taken back: how many are kept still. NO: none is.");
        ScissorsBench bench = new ScissorsBench();
        due("of none", bench.undo(), NO);
        due("of none again", bench.undo(), NO);
        bench = box(4, 4);
        due("of one", bench.undo(), 0);
        due("count(0)", bench.count(0), 0);
        due("of none behind one", bench.undo(), NO);
        due("count(4)", bench.count(4), 1);
        due("redo()", bench.redo(), 0);
        due("count(0)", bench.count(0), 1);
        due("of one again", bench.undo(), 0);
        due("of none again", bench.undo(), NO);
        bench = two();
        due("of two", bench.undo(), 1);
        due("count(0)", bench.count(0), 1);
        due("count(3)", bench.count(3), 1);
    }

    private static void undoAllThatIsKept() {
        says(13, LATEST);
        ScissorsBench bench = box(4, 4);
        for (int i = 1; i <= 5; i++) {
            due("count(3)", bench.count(3), i);
            bench.slide(0, 1, 0);
        }
        due("count(3): 6 of 6", bench.count(3), 6);
        for (int i = 5; i >= 0; i--) {
            due("undo()", bench.undo(), i);
            due("count(0)", bench.count(0), i == 0 ? 0 : 1);
        }
        due("undo() of none", bench.undo(), NO);
        due("count(4)", bench.count(4), 6);
    }

    private static void seventhChange() {
        says(13, LATEST);
        ScissorsBench bench = box(4, 4);
        for (int i = 1; i <= 6; i++) {
            bench.slide(0, 1, 0);
        }
        due("count(3): 6 of 7", bench.count(3), 6);
        for (int i = 5; i >= 0; i--) {
            due("undo()", bench.undo(), i);
            dueMove(bench, 0, 1, i, 0);
        }
        due("undo() of the first CHANGE", bench.undo(), NO);
        due("count(0)", bench.count(0), 1);
        dueMove(bench, 0, 1, 0, 0);

        says(13, "A call that is refused answers one of BAD, NO, FULL, OFF, "
            + "of several the one that stands first here, and changes nothing");
        bench = box(4, 4);
        for (int i = 1; i <= 5; i++) {
            bench.slide(0, 1, 0);
        }
        due("a seventh that is BAD", bench.slide(0, 200001, 0), BAD);
        due("a seventh that is NO", bench.aside(0, 1), NO);
        due("a seventh that is OFF", bench.cut(5, 0, 12, 1), OFF);
        due("count(3)", bench.count(3), 6);
        for (int i = 5; i >= 0; i--) {
            due("undo()", bench.undo(), i);
        }
        due("count(0): the first is kept still", bench.count(0), 0);
    }

    private static void manyChanges() {
        says(13, LATEST);
        ScissorsBench bench = box(4, 4);
        int slides = 0;
        for (int round = 0; round < 12; round++) {
            for (int i = 0; i < 6 + round % 3; i++) {
                bench.slide(0, 1, 0);
                slides++;
            }
            due("count(3), round " + round, bench.count(3), 6);
            for (int i = 5; i >= 0; i--) {
                due("undo()", bench.undo(), i);
                due("a", bench.about(0, 3), slides - 6 + i);
            }
            due("undo() of none", bench.undo(), NO);
            for (int i = 5; i >= 0; i--) {
                due("redo()", bench.redo(), i);
                due("a", bench.about(0, 3), slides - i);
            }
            due("redo() of none", bench.redo(), NO);
        }
    }

    private static void redoAtTheEnd() {
        says(14, "What undo() took back latest is done again: how many more can be. NO: there is none.");
        due("of none", new ScissorsBench().redo(), NO);
        ScissorsBench bench = box(4, 4);
        due("behind a CHANGE", bench.redo(), NO);
        bench.slide(0, 1, 0);
        bench.slide(0, 0, 1);
        bench.undo();
        bench.undo();
        due("of two", bench.redo(), 1);
        dueMove(bench, 0, 1, 1, 0);
        due("of one", bench.redo(), 0);
        dueMove(bench, 0, 1, 1, 1);
        due("of none", bench.redo(), NO);
        dueMove(bench, 0, 1, 1, 1);
        bench.undo();
        due("count(4)", bench.count(4), 1);
        due("of one again", bench.redo(), 0);
        dueMove(bench, 0, 1, 1, 1);
        due("count(4)", bench.count(4), 0);
        due("count(3)", bench.count(3), 3);
    }

    private static void dueNothingAgain(String told, Call change) {
        ScissorsBench bench = two();
        bench.slide(0, 50, 50);
        bench.slide(0, 1, 1);
        bench.undo();
        bench.undo();
        due(told + ": count(4) before it", bench.count(4), 2);
        due(told + " is not refused", change.on(bench) >= 0 ? 0 : 1, 0);
        due(told + ": count(4)", bench.count(4), 0);
        due(told + ": count(3)", bench.count(3), 3);
        due(told + ": redo()", bench.redo(), NO);
    }

    private static void otherChange() {
        says(14, "as long as no other CHANGE came");
        dueNothingAgain("begin", b -> b.begin(0));
        dueNothingAgain("cut", b -> b.cut(0, 2, 1, 2));
        dueNothingAgain("cut of none", b -> b.cut(0, 9, 1, 9));
        dueNothingAgain("part", b -> b.part(1, 0, 2, 1, 0));
        dueNothingAgain("slide", b -> b.slide(0, 0, 0));
        dueNothingAgain("the same slide", b -> b.slide(0, 50, 50));
        dueNothingAgain("half", b -> b.half(0, 4, 4));
        dueNothingAgain("join", b -> b.join(0, 1));
        dueNothingAgain("aside", b -> b.aside(0, 0));
        dueNothingAgain("back", b -> b.back());
        dueNothingAgain("fetch", b -> b.fetch(0));
        dueNothingAgain("third", b -> b.third(0));
    }

    private static void dueAllAgain(String told, Call call) {
        ScissorsBench bench = two();
        bench.slide(0, 50, 50);
        bench.slide(0, 1, 1);
        bench.undo();
        bench.undo();
        call.on(bench);
        due(told + ": count(4)", bench.count(4), 2);
        due(told + ": redo()", bench.redo(), 1);
        dueMove(bench, 0, 1, 50, 50);
        due(told + ": redo() again", bench.redo(), 0);
        dueMove(bench, 0, 1, 51, 51);
    }

    private static void noOtherChange() {
        says(14, "as long as no other CHANGE came");
        dueAllAgain("begin that is refused", b -> b.begin(1));
        dueAllAgain("cut that is refused", b -> b.cut(0, 0, 9, 1));
        dueAllAgain("part that is refused", b -> b.part(0, 0, 0, 9, 1));
        dueAllAgain("part of none", b -> b.part(0, 9, 9, 9, 1));
        dueAllAgain("slide that is refused", b -> b.slide(0, -1, -100001));
        dueAllAgain("half that is refused", b -> b.half(0, 100005, 0));
        dueAllAgain("join that is refused", b -> b.join(0, 2));
        dueAllAgain("aside that is refused", b -> b.aside(0, 1));
        dueAllAgain("fetch that is refused", b -> b.fetch(1));
        dueAllAgain("third that is refused", b -> b.third(1));
        dueAllAgain("shelve", b -> b.shelve(0));
        dueAllAgain("shelve and corner", b -> b.shelve(3) + b.corner(0, 0));
        dueAllAgain("figure", b -> told(b, 0, 1, 0, 0, 4, 0, 0, 4));
        dueAllAgain("sums", b -> b.sums());
        dueAllAgain("covers", b -> b.covers(0));
        dueAllAgain("undo() and redo()", b -> b.undo() + b.redo());
    }

    private static void keptBehindUndo() {
        says(14, LATEST);
        ScissorsBench bench = box(4, 4);
        for (int i = 0; i < 5; i++) {
            bench.slide(0, 1, 0);
        }
        for (int i = 0; i < 3; i++) {
            bench.undo();
        }
        due("count(3)", bench.count(3), 3);
        due("count(4)", bench.count(4), 3);
        bench.slide(0, 0, 1);
        due("count(3) behind one more", bench.count(3), 4);
        for (int i = 0; i < 3; i++) {
            bench.slide(0, 0, 1);
        }
        due("count(3) behind four more", bench.count(3), 6);
        due("count(4)", bench.count(4), 0);
        for (int i = 5; i >= 0; i--) {
            due("undo()", bench.undo(), i);
            dueMove(bench, 0, 1, Math.min(i, 2), Math.max(i - 2, 0));
        }
        due("undo() of the first CHANGE", bench.undo(), NO);
        due("count(4)", bench.count(4), 6);
        for (int i = 5; i >= 0; i--) {
            due("redo()", bench.redo(), i);
        }
        dueMove(bench, 0, 1, 2, 4);
    }

    private static void figuresStay() {
        says(13, "undo() takes back the latest one that is kept (PIECES are as they were)");
        ScissorsBench bench = two();
        told(bench, 3, 1, 0, 0, 4, 0, 0, 4);
        bench.slide(0, 0, 9);
        bench.shelve(2);
        bench.corner(5, 5);
        due("undo()", bench.undo(), 2);
        due("undo()", bench.undo(), 1);
        due("undo()", bench.undo(), 0);
        due("FIGURE 3", bench.area(3), 16);
        due("FIGURE 0", bench.area(0), 64);
        due("FIGURES", bench.count(2), 2);
        due("PLANS", bench.count(5), 2);
        due("corners in hand", bench.count(1), 1);
        due("fetch(2)", bench.fetch(2), 2);
        dueMove(bench, 0, 1, 0, 9);
        due("redo()", bench.redo(), NO);
        due("fetch(0)", bench.fetch(0), 2);
        dueMove(bench, 0, 1, 0, 0);
    }

    private static void refusedBoth() {
        says(13, "A call that is refused answers one of BAD, NO, FULL, OFF, "
            + "of several the one that stands first here, and changes nothing");
        Recipe allTaken = () -> {
            ScissorsBench bench = busy();
            for (int i = 0; i < 4; i++) {
                bench.undo();
            }
            return bench;
        };
        refused("undo() of none", allTaken, b -> b.undo(), NO);
        Recipe allAgain = () -> {
            ScissorsBench bench = busy();
            bench.redo();
            bench.redo();
            return bench;
        };
        refused("redo() of none", allAgain, b -> b.redo(), NO);
        refused("undo() without pieces", ScissorsBench::new, b -> b.undo(), NO);
        refused("redo() without pieces", ScissorsBench::new, b -> b.redo(), NO);
    }
}
