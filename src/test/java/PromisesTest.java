/** Each promise by hand: ordinary inputs, the edges that the document names, wrong inputs. */
public final class PromisesTest extends Checks {
    public static void main(String[] args) {
        newObject();
        corner();
        figure();
        figureThatIsNoRing();
        area();
        begin();
        cut();
        cutFullAndOff();
        part();
        slide();
        half();
        join();
        joinFull();
        aside();
        back();
        undo();
        redo();
        isOf();
        about();
        at();
        over();
        find();
        covers();
        sums();
        sum();
        shelve();
        fetch();
        third();
        thirdRefused();
        count();
        Due.end();
    }

    private static void newObject() {
        holds(1);
        ScissorsBench bench = new ScissorsBench();
        for (int what = 0; what <= 6; what++) {
            due("count(" + what + ")", bench.count(what), 0);
        }
        for (int k = 0; k < 5; k++) {
            due("area(" + k + ")", bench.area(k), NO);
            due("covers(" + k + ")", bench.covers(k), NO);
        }
        for (int k = 0; k < 4; k++) {
            due("fetch(" + k + ")", bench.fetch(k), NO);
        }
        due("undo()", bench.undo(), NO);
        due("redo()", bench.redo(), NO);
        due("find(0, 0)", bench.find(0, 0), NONE);
        due("sums()", bench.sums(), 0);
        due("about(0, 0)", bench.about(0, 0), BAD);
        ScissorsBench other = box(4, 4);
        due("count(0) beside another one", new ScissorsBench().count(0), 0);
        due("count(0) of that one", other.count(0), 1);
    }

    private static void corner() {
        holds(2);
        ScissorsBench bench = new ScissorsBench();
        due("corner far right", bench.corner(100001, 0), BAD);
        due("corner far left", bench.corner(-100001, 0), BAD);
        due("corner far up", bench.corner(0, 100001), BAD);
        due("corner far down", bench.corner(0, -100001), BAD);
        due("corner lowest", bench.corner(LOWEST, LOWEST), BAD);
        due("corner highest", bench.corner(HIGHEST, HIGHEST), BAD);
        due("count(1)", bench.count(1), 0);
        due("corner at the bounds", bench.corner(100000, -100000), 1);
        due("corner at the other bounds", bench.corner(-100000, 100000), 2);
        for (int i = 3; i <= 16; i++) {
            due("corner alike", bench.corner(0, 0), i);
        }
        due("corner 17", bench.corner(0, 0), FULL);
        due("corner 17 beyond the bounds", bench.corner(0, 100001), BAD);
        due("count(1)", bench.count(1), 16);
    }

    private static void figure() {
        holds(3);
        ScissorsBench bench = new ScissorsBench();
        due("figure, begun anywhere", told(bench, 0, 1, 5, 1, 5, 6, 1, 6, 1, 1), 4);
        due("count(1)", bench.count(1), 0);
        bench.begin(0);
        dueCorners(bench, 0, 0, 1, 1, 5, 1, 5, 6, 1, 6);
        due("figure, with the clock", told(bench, 4, 1, 5, 6, 5, 1, 1, 1), 3);
        bench.begin(4);
        dueCorners(bench, 0, 0, 1, 1, 5, 1, 5, 6);
        due("figure again", told(bench, 4, 1, 0, 0, 3, 0, 0, 3), 3);
        due("area(4)", bench.area(4), 9);
        due("figure of 16 corners", told(bench, 1, 1, ROUND), 16);
        bench.begin(1);
        due("least corner x", bench.at(0, 0, 0), -4);
        due("least corner y", bench.at(0, 0, 1), 4);
        due("next corner x", bench.at(0, 1, 0), -3);
        due("next corner y", bench.at(0, 1, 1), 2);
        bench.corner(0, 0);
        due("figure(-1)", bench.figure(-1), BAD);
        due("figure(5)", bench.figure(5), BAD);
        due("figure lowest", bench.figure(LOWEST), BAD);
        due("figure highest", bench.figure(HIGHEST), BAD);
        due("count(1)", bench.count(1), 1);
        due("figure over all", told(new ScissorsBench(), 0, 100000, -1, -1, 1, -1, 1, 1, -1, 1), 4);
    }

    private static void figureThatIsNoRing() {
        holds(3);
        ScissorsBench bench = new ScissorsBench();
        told(bench, 2, 1, 0, 0, 3, 0, 0, 3);
        due("no corners", bench.figure(2), NO);
        due("one corner", told(bench, 2, 1, 0, 0), NO);
        due("two corners", told(bench, 2, 1, 0, 0, 3, 0), NO);
        due("an inward corner", told(bench, 2, 1, 0, 0, 4, 0, 1, 1, 0, 4), NO);
        due("an inward corner, with the clock", told(bench, 2, 1, 0, 4, 1, 1, 4, 0, 0, 0), NO);
        due("a straight corner", told(bench, 2, 1, 0, 0, 2, 0, 4, 0, 0, 4), NO);
        due("a straight last corner", told(bench, 2, 1, 0, 0, 4, 0, 0, 4, 0, 2), NO);
        due("three in a line", told(bench, 2, 1, 0, 0, 1, 1, 2, 2), NO);
        due("back in the line", told(bench, 2, 1, 0, 0, 4, 0, 2, 0, 0, 4), NO);
        due("alike ones behind one another", told(bench, 2, 1, 0, 0, 4, 0, 4, 0, 0, 4), NO);
        due("alike ones first and last", told(bench, 2, 1, 0, 0, 4, 0, 0, 4, 0, 0), NO);
        due("alike ones all", told(bench, 2, 1, 1, 1, 1, 1, 1, 1), NO);
        due("crossing itself", told(bench, 2, 1, 0, 0, 4, 4, 4, 0, 0, 4), NO);
        due("twice round a triangle", told(bench, 2, 1, 0, 0, 4, 0, 0, 4, 0, 0, 4, 0, 0, 4), NO);
        due("twice round in a star", told(bench, 2, 1, 0, 3, -2, -3, 3, 1, -3, 1, 2, -3), NO);
        due("twice round, with the clock", told(bench, 2, 1, 2, -3, -3, 1, 3, 1, -2, -3, 0, 3), NO);
        due("count(1)", bench.count(1), 0);
        due("count(2)", bench.count(2), 1);
        due("area(2)", bench.area(2), 9);
    }

    private static void area() {
        holds(4);
        ScissorsBench bench = new ScissorsBench();
        told(bench, 0, 1, -1, 0, 2, -2, 3, 5);
        due("area(0)", bench.area(0), 23);
        told(bench, 4, 100000, -1, -1, 1, -1, 1, 1, -1, 1);
        due("area(4)", bench.area(4), 80000000000L);
        due("area(1)", bench.area(1), NO);
        due("area(-1)", bench.area(-1), BAD);
        due("area(5)", bench.area(5), BAD);
        due("area lowest", bench.area(LOWEST), BAD);
    }

    private static void begin() {
        holds(5);
        ScissorsBench bench = box(6, 4);
        told(bench, 1, 1, 0, 0, 3, 0, 0, 3);
        bench.cut(0, 0, 6, 4);
        bench.slide(0, 1, 1);
        bench.aside(0, 1);
        due("begin(1)", bench.begin(1), 0);
        due("count(0)", bench.count(0), 1);
        due("about(0, 5)", bench.about(0, 5), 0);
        dueMove(bench, 0, 1, 0, 0);
        dueCorners(bench, 0, 2, 0, 0, 3, 0, 0, 3);
        told(bench, 1, 1, 0, 0, 9, 0, 0, 9);
        due("about(0, 1): the piece stays as its figure was", bench.about(0, 1), 9);
        due("begin(2)", bench.begin(2), NO);
        due("begin(-1)", bench.begin(-1), BAD);
        due("begin(5)", bench.begin(5), BAD);
        due("count(0)", bench.count(0), 1);
        due("count(3)", bench.count(3), 5);
    }

    private static void cut() {
        holds(6);
        ScissorsBench bench = box(6, 4);
        due("cut along a side", bench.cut(0, 0, 6, 0), 0);
        due("count(3): it is a change", bench.count(3), 2);
        due("cut beside it", bench.cut(-1, 0, -1, 4), 0);
        due("cut through a corner alone", bench.cut(-2, 2, 2, -2), 0);
        due("count(0)", bench.count(0), 1);
        due("cut", bench.cut(2, 0, 2, 1), 1);
        dueCorners(bench, 0, 0, 0, 0, 2, 0, 2, 4, 0, 4);
        dueCorners(bench, 1, 0, 2, 0, 6, 0, 6, 4, 2, 4);
        due("cut of both, the other way", bench.cut(6, 2, 0, 2), 2);
        dueCorners(bench, 0, 0, 0, 0, 2, 0, 2, 2, 0, 2);
        dueCorners(bench, 1, 0, 2, 0, 6, 0, 6, 2, 2, 2);
        dueCorners(bench, 2, 0, 0, 2, 2, 2, 2, 4, 0, 4);
        dueCorners(bench, 3, 0, 2, 2, 6, 2, 6, 4, 2, 4);
        due("cut through corners", bench.cut(0, 0, 2, 2), 2);
        dueCorners(bench, 0, 0, 0, 0, 2, 2, 0, 2);
        dueCorners(bench, 4, 0, 0, 0, 2, 0, 2, 2);
        dueCorners(bench, 3, 0, 2, 2, 4, 4, 2, 4);
        dueCorners(bench, 5, 0, 2, 2, 6, 2, 6, 4, 4, 4);

        bench = begun(1, 0, 0, 4, 0, 0, 4);
        bench.half(0, 10, 10);
        bench.aside(0, 1);
        dueCorners(bench, 0, 0, 6, 10, 10, 6, 10, 10);
        due("cut of a spare one that is moved", bench.cut(8, 0, 8, 10), 1);
        dueCorners(bench, 0, 0, 6, 10, 8, 8, 8, 10);
        dueCorners(bench, 1, 0, 8, 8, 10, 6, 10, 10, 8, 10);
        dueCorners(bench, 0, 2, 2, 0, 4, 0, 2, 2);
        dueCorners(bench, 1, 2, 0, 0, 2, 0, 2, 2, 0, 4);
        dueMove(bench, 0, -1, 10, 10);
        dueMove(bench, 1, -1, 10, 10);
        due("about(0, 5)", bench.about(0, 5), 0);
        due("about(1, 5)", bench.about(1, 5), 0);

        due("A and B alike", bench.cut(1, 1, 1, 1), BAD);
        due("A beyond the bounds", bench.cut(100001, 0, 0, 0), BAD);
        due("A below the bounds", bench.cut(0, -100001, 0, 0), BAD);
        due("B beyond the bounds", bench.cut(0, 0, -100001, 0), BAD);
        due("B highest", bench.cut(0, 0, 0, HIGHEST), BAD);
        due("count(0)", bench.count(0), 2);

        bench = begun(100000, -1, -1, 1, -1, 1, 1, -1, 1);
        due("cut from bound to bound", bench.cut(-100000, -99999, 100000, 99999), 1);
        dueCorners(bench, 0, 0, -100000, -99999, 100000, 99999, 100000, 100000, -100000, 100000);
    }

    private static void cutFullAndOff() {
        holds(6);
        ScissorsBench bench = box(5, 5);
        due("cut at no whole places", bench.cut(0, 1, 5, 2), 1);
        due("cut at one that is not whole", bench.cut(2, 0, 2, 5), OFF);
        due("count(0)", bench.count(0), 2);
        due("count(3)", bench.count(3), 2);

        bench = box(40, 2);
        for (int x = 1; x < 40; x++) {
            due("cut at " + x, bench.cut(x, 0, x, 2), 1);
        }
        due("count(0)", bench.count(0), 40);
        due("the 41st", bench.cut(0, 1, 40, 1), FULL);
        due("the 41st, at no whole place", bench.cut(0, 1, 1, 2), FULL);
        due("none crossed", bench.cut(0, 0, 40, 0), 0);
        bench.join(0, 1);
        due("cut of 39", bench.cut(0, 1, 40, 1), FULL);
        due("the 40th", bench.cut(1, 0, 1, 2), 1);
        due("count(0)", bench.count(0), 40);

        bench = begun(4, ROUND);
        due("17 corners", bench.cut(2, 0, 8, 2), FULL);
        due("17 corners to the left, the other way round", bench.cut(8, 2, 2, 0), FULL);
        due("17 corners, at no whole place", bench.cut(2, 0, 7, 1), FULL);
        due("16 corners, at no whole place", bench.cut(0, 0, 9, 2), OFF);
        due("16 corners", bench.cut(0, 0, 8, 2), 1);
        due("about(0, 0)", bench.about(0, 0), 16);
        due("about(1, 0)", bench.about(1, 0), 3);

        bench = box(8, 8);
        bench.cut(0, 4, 8, 4);
        due("the first is whole, the second is not", bench.cut(8, 8, 5, 0), OFF);
        due("count(0): none is cut", bench.count(0), 2);
    }

    private static void part() {
        holds(7);
        ScissorsBench bench = box(6, 4);
        bench.cut(2, 0, 2, 4);
        bench.aside(0, 0);
        due("part", bench.part(1, 0, 2, 1, 0), 2);
        dueCorners(bench, 0, 0, 0, 0, 2, 0, 2, 4, 0, 4);
        dueCorners(bench, 1, 0, 2, 2, 6, 2, 6, 4, 2, 4);
        dueCorners(bench, 2, 0, 2, 0, 6, 0, 6, 2, 2, 2);
        due("part, the other way", bench.part(0, 1, 100000, 0, -1000), 3);
        dueCorners(bench, 0, 0, 1, 0, 2, 0, 2, 4, 1, 4);
        dueCorners(bench, 3, 0, 0, 0, 1, 0, 1, 4, 0, 4);
        due("a line that does not cross it", bench.part(0, 0, 0, 0, 1), NO);
        due("a line along its side", bench.part(0, 1, 0, 0, 1), NO);
        due("a line through its corner", bench.part(0, 1, 0, 1, -1), NO);
        due("not whole", bench.part(1, 2, 2, 3, 2), 4);
        due("not whole", bench.part(2, 2, 0, 3, 1), OFF);
        due("count(0)", bench.count(0), 5);

        due("piece -1", bench.part(-1, 0, 0, 1, 1), BAD);
        due("piece 5", bench.part(5, 0, 0, 1, 1), BAD);
        due("piece highest", bench.part(HIGHEST, 0, 0, 1, 1), BAD);
        due("no step", bench.part(0, 1, 1, 0, 0), BAD);
        due("dx 1001", bench.part(0, 1, 1, 1001, 0), BAD);
        due("dx -1001", bench.part(0, 1, 1, -1001, 0), BAD);
        due("dy 1001", bench.part(0, 1, 1, 0, 1001), BAD);
        due("dy lowest", bench.part(0, 1, 1, 0, LOWEST), BAD);
        due("ax 100001", bench.part(0, 100001, 1, 0, 1), BAD);
        due("ay -100001", bench.part(0, 1, -100001, 0, 1), BAD);

        bench = begun(100000, -1, -1, 1, -1, 1, 1, -1, 1);
        due("the second place beyond the bounds", bench.part(0, 100000, 100000, 1000, 1000), 1);

        bench = box(40, 2);
        for (int x = 1; x < 40; x++) {
            bench.part(x - 1, x, 0, 0, 1);
        }
        due("count(0)", bench.count(0), 40);
        dueCorners(bench, 39, 0, 39, 0, 40, 0, 40, 2, 39, 2);
        due("the 41st", bench.part(5, 0, 1, 1, 0), FULL);
        due("the 41st, at no whole place", bench.part(1, 0, 0, 3, 1), FULL);
        due("none, with 40", bench.part(0, 0, 0, 1, 0), NO);

        bench = begun(4, ROUND);
        due("17 corners", bench.part(0, 2, 0, 3, 1), FULL);
        due("17 corners, at no whole place", bench.part(0, 2, 0, 5, 1), FULL);

        bench = begun(1, 0, 0, 4, 0, 0, 4);
        bench.slide(0, 3, 1);
        bench.aside(0, 1);
        due("part of a spare one that is moved", bench.part(0, 5, 0, 0, 1), 1);
        due("about(0, 5)", bench.about(0, 5), 0);
        due("about(1, 5)", bench.about(1, 5), 0);
        dueMove(bench, 1, 1, 3, 1);
        dueCorners(bench, 1, 2, 2, 0, 4, 0, 2, 2);
    }

    private static void slide() {
        holds(8);
        ScissorsBench bench = begun(1, 0, 0, 4, 0, 0, 4);
        bench.aside(0, 1);
        due("slide", bench.slide(0, 3, -2), 0);
        dueCorners(bench, 0, 0, 3, -2, 7, -2, 3, 2);
        dueCorners(bench, 0, 2, 0, 0, 4, 0, 0, 4);
        dueMove(bench, 0, 1, 3, -2);
        due("about(0, 5): spare still", bench.about(0, 5), 1);
        due("slide again", bench.slide(0, -1, -1), 0);
        dueMove(bench, 0, 1, 2, -3);
        due("slide nowhere", bench.slide(0, 0, 0), 0);
        due("count(3): it is a change", bench.count(3), 5);
        due("slide to the bounds", bench.slide(0, 99994, -99997), 0);
        due("too far right", bench.slide(0, 1, 0), BAD);
        due("too far down", bench.slide(0, 0, -1), BAD);
        dueMove(bench, 0, 1, 99996, -100000);
        due("as far as can be", bench.slide(0, -199996, 199996), 0);
        dueCorners(bench, 0, 0, -100000, 99996, -99996, 99996, -100000, 100000);
        due("too far left", bench.slide(0, -1, 0), BAD);
        due("too far up", bench.slide(0, 0, 1), BAD);
        due("dx 200001", bench.slide(0, 200001, 0), BAD);
        due("dx -200001", bench.slide(0, -200001, 0), BAD);
        due("dy 200001", bench.slide(0, 0, 200001), BAD);
        due("dx highest", bench.slide(0, HIGHEST, 0), BAD);
        due("dy lowest", bench.slide(0, 0, LOWEST), BAD);
        due("piece -1", bench.slide(-1, 0, 0), BAD);
        due("piece 1", bench.slide(1, 0, 0), BAD);
        dueMove(bench, 0, 1, -100000, 99996);

        int[] leastRoom = {-100000, 99996, -100000, 99996};
        for (int way = 0; way < 4; way++) {
            bench = begun(1, 0, 2, 2, 0, 4, 2, 2, 4);
            int x = way < 2 ? leastRoom[way] : 0;
            int y = way < 2 ? 0 : leastRoom[way];
            due("one corner to the bounds, way " + way, bench.slide(0, x, y), 0);
            int out = way % 2 == 0 ? -1 : 1;
            due("one corner beyond them, way " + way, bench.slide(0, way < 2 ? out : 0, way < 2 ? 0 : out), BAD);
            dueMove(bench, 0, 1, x, y);
        }
    }

    private static void half() {
        holds(9);
        ScissorsBench bench = begun(1, 0, 0, 4, 0, 4, 1, 0, 3);
        due("half", bench.half(0, 10, 20), 0);
        dueCorners(bench, 0, 0, 6, 19, 10, 17, 10, 20, 6, 20);
        dueCorners(bench, 0, 2, 0, 0, 4, 0, 4, 1, 0, 3);
        dueMove(bench, 0, -1, 10, 20);
        due("slide when turned", bench.slide(0, 1, 2), 0);
        dueMove(bench, 0, -1, 11, 22);
        due("half again", bench.half(0, 1, -1), 0);
        dueMove(bench, 0, 1, -10, -23);
        dueCorners(bench, 0, 0, -10, -23, -6, -23, -6, -22, -10, -20);
        due("too far left", bench.half(0, -100007, 0), BAD);
        due("just in", bench.half(0, -100006, 0), 0);
        dueMove(bench, 0, -1, -99996, 23);
        due("a -200001", bench.half(0, -200001, 0), BAD);
        due("a 200001", bench.half(0, 200001, 0), BAD);
        due("b -200001", bench.half(0, 0, -200001), BAD);
        due("b highest", bench.half(0, 0, HIGHEST), BAD);
        due("piece -1", bench.half(-1, 0, 0), BAD);
        due("piece 1", bench.half(1, 0, 0), BAD);
        dueMove(bench, 0, -1, -99996, 23);

        bench = begun(1, 99990, 99990, 100000, 99990, 99990, 100000);
        bench.aside(0, 1);
        due("about the bounds", bench.half(0, 199990, 200000), BAD);
        due("a 199990", bench.half(0, 199990, 199990), 0);
        dueCorners(bench, 0, 0, 99990, 100000, 100000, 99990, 100000, 100000);
        due("about(0, 5): spare still", bench.about(0, 5), 1);
    }

    private static void join() {
        holds(10);
        ScissorsBench bench = box(6, 4);
        bench.cut(2, 0, 2, 4);
        bench.cut(4, 0, 4, 4);
        due("a side apart", bench.join(0, 2), NO);
        due("join(1, 0)", bench.join(1, 0), 4);
        due("count(0)", bench.count(0), 2);
        dueCorners(bench, 0, 0, 0, 0, 4, 0, 4, 4, 0, 4);
        dueCorners(bench, 1, 0, 4, 0, 6, 0, 6, 4, 4, 4);
        bench.slide(0, 1, 0);
        due("moved in x", bench.join(0, 1), NO);
        bench.slide(0, -1, 1);
        due("moved in y", bench.join(0, 1), NO);
        bench.back();
        bench.half(0, 0, 0);
        due("turned", bench.join(0, 1), NO);
        bench.half(1, 0, 0);
        bench.slide(0, 7, 7);
        bench.slide(1, 7, 7);
        due("turned both", bench.join(0, 1), 4);
        dueMove(bench, 0, -1, 7, 7);
        dueCorners(bench, 0, 2, 0, 0, 6, 0, 6, 4, 0, 4);

        bench = box(4, 4);
        bench.cut(0, 0, 4, 4);
        bench.aside(0, 1);
        bench.aside(1, 1);
        due("spare ones", bench.join(0, 1), 4);
        due("about(0, 5)", bench.about(0, 5), 0);

        bench = box(4, 4);
        bench.cut(0, 2, 4, 2);
        bench.part(0, 2, 0, 0, 1);
        due("a part of a side alone", bench.join(0, 1), NO);
        bench.part(1, 2, 0, 0, 1);
        due("a corner alone", bench.join(0, 3), NO);
        due("a whole side", bench.join(0, 1), 4);

        bench = box(12, 8);
        bench.cut(0, 4, 12, 4);
        bench.part(0, 8, 0, 0, 1);
        bench.part(1, 8, 4, 1, -1);
        dueCorners(bench, 0, 0, 0, 4, 8, 4, 8, 8, 0, 8);
        dueCorners(bench, 3, 0, 0, 0, 12, 0, 8, 4, 0, 4);
        due("an inward corner", bench.join(0, 3), NO);
        due("an inward corner, the other way", bench.join(3, 0), NO);
        due("no inward corner", bench.join(3, 1), 4);
        dueCorners(bench, 2, 0, 0, 0, 12, 0, 12, 4, 0, 4);

        bench = begun(1, 0, 0, 8, 0, 8, 4, 4, 8, 0, 8);
        bench.cut(4, 0, 4, 8);
        dueCorners(bench, 1, 0, 4, 0, 8, 0, 8, 4, 4, 8);
        due("one corner straight, one not", bench.join(0, 1), 5);

        due("the same one", bench.join(0, 0), BAD);
        due("piece -1", bench.join(-1, 0), BAD);
        due("other 1", bench.join(0, 1), BAD);
        due("other lowest", bench.join(0, LOWEST), BAD);

        bench = box(8, 4);
        bench.cut(2, 0, 2, 4);
        bench.cut(4, 0, 4, 4);
        bench.cut(6, 0, 6, 4);
        due("join(1, 2)", bench.join(1, 2), 4);
        dueCorners(bench, 0, 0, 0, 0, 2, 0, 2, 4, 0, 4);
        dueCorners(bench, 1, 0, 2, 0, 6, 0, 6, 4, 2, 4);
        dueCorners(bench, 2, 0, 6, 0, 8, 0, 8, 4, 6, 4);
        due("join(2, 0)", bench.join(2, 0), NO);
        due("join(2, 1)", bench.join(2, 1), 4);
        dueCorners(bench, 1, 0, 2, 0, 8, 0, 8, 4, 2, 4);
    }

    private static void joinFull() {
        holds(10);
        ScissorsBench bench = begun(8, ROUND);
        due("cut in two", bench.cut(8, 0, 0, 72), 1);
        due("corners of the one", bench.about(0, 0), 9);
        due("corners of the other", bench.about(1, 0), 9);
        due("a corner off the other", bench.part(1, 16, 4, 3, 2), 2);
        due("a corner off the one", bench.part(0, -20, 60, -2, -3), 3);
        due("corners of both", bench.about(0, 0) + bench.about(1, 0), 20);
        due("18 together", bench.join(0, 1), FULL);
        due("count(0)", bench.count(0), 4);
        due("without a common side", bench.join(2, 3), NO);
        due("one corner back", bench.join(1, 2), 9);
        due("17 together", bench.join(0, 1), FULL);
        due("the other one back", bench.join(0, 2), 9);
        due("16 together", bench.join(0, 1), 16);

        bench = begun(8, ROUND);
        bench.cut(8, 0, 0, 72);
        bench.part(0, 4, 0, 1, 3);
        bench.part(1, 7, 9, 9, -5);
        due("corners of both", bench.about(0, 0) + bench.about(1, 0), 20);
        due("18 together, one of them inward", bench.join(0, 1), NO);
    }

    private static void aside() {
        holds(11);
        ScissorsBench bench = box(4, 4);
        due("no triangle", bench.aside(0, 1), NO);
        due("no triangle, on 0", bench.aside(0, 0), 0);
        bench.cut(0, 0, 4, 4);
        due("aside(1, 1)", bench.aside(1, 1), 0);
        due("about(1, 5)", bench.about(1, 5), 1);
        due("about(0, 5)", bench.about(0, 5), 0);
        due("aside(1, 1) again", bench.aside(1, 1), 1);
        due("aside(1, 0)", bench.aside(1, 0), 1);
        due("about(1, 5)", bench.about(1, 5), 0);
        due("aside(1, 0) again", bench.aside(1, 0), 0);
        due("on 2", bench.aside(1, 2), BAD);
        due("on -1", bench.aside(1, -1), BAD);
        due("piece 2", bench.aside(2, 1), BAD);
        due("piece -1", bench.aside(-1, 0), BAD);
        due("count(3)", bench.count(3), 6);
    }

    private static void back() {
        holds(12);
        due("back() without pieces", new ScissorsBench().back(), 0);
        ScissorsBench bench = box(4, 4);
        bench.cut(0, 0, 4, 4);
        bench.aside(1, 1);
        due("back(): none moved", bench.back(), 0);
        due("count(3): it is a change", bench.count(3), 4);
        bench.half(0, 4, 4);
        bench.slide(1, 0, 1);
        due("back(): two moved", bench.back(), 2);
        dueMove(bench, 0, 1, 0, 0);
        dueMove(bench, 1, 1, 0, 0);
        due("about(1, 5): spare still", bench.about(1, 5), 1);
        due("covers(0)", bench.covers(0), 2000);
        bench.half(0, 0, 0);
        due("back(): turned alone", bench.back(), 1);
        bench.slide(0, 1, 0);
        due("back(): slid in x alone", bench.back(), 1);
        bench.slide(0, 1, 1);
        bench.slide(0, -1, -1);
        due("back(): slid back already", bench.back(), 0);
    }

    private static void undo() {
        holds(13);
        ScissorsBench bench = box(8, 4);
        bench.cut(2, 0, 2, 4);
        bench.slide(0, 0, 9);
        due("undo() of slide", bench.undo(), 2);
        dueMove(bench, 0, 1, 0, 0);
        due("undo() of cut", bench.undo(), 1);
        due("count(0)", bench.count(0), 1);
        due("about(0, 1)", bench.about(0, 1), 64);
        due("undo() of begin", bench.undo(), 0);
        due("count(0)", bench.count(0), 0);
        due("undo() of nothing", bench.undo(), NO);
        due("count(4)", bench.count(4), 3);

        bench = box(8, 4);
        for (int i = 1; i <= 9; i++) {
            bench.slide(0, 1, 0);
        }
        due("count(3): the latest 6", bench.count(3), 6);
        for (int i = 5; i >= 0; i--) {
            due("undo()", bench.undo(), i);
            dueMove(bench, 0, 1, 3 + i, 0);
        }
        due("undo() beyond those kept", bench.undo(), NO);
        dueMove(bench, 0, 1, 3, 0);

        bench = box(8, 4);
        bench.shelve(0);
        for (int i = 1; i <= 9; i++) {
            bench.slide(0, 1, 0);
        }
        due("a change refused late", bench.cut(9, 0, 16, 3), OFF);
        due("another one", bench.fetch(1), NO);
        bench.cut(11, 0, 11, 4);
        bench.cut(9, 2, 17, 2);
        due("one more", bench.cut(9, 0, 16, 3), OFF);
        for (int i = 5; i >= 0; i--) {
            bench.undo();
        }
        due("count(0)", bench.count(0), 1);
        dueMove(bench, 0, 1, 5, 0);
        for (int i = 5; i >= 0; i--) {
            bench.redo();
        }
        due("count(0)", bench.count(0), 4);
        dueMove(bench, 3, 1, 9, 0);

        bench = box(8, 4);
        bench.corner(1, 1);
        told(bench, 1, 1, 0, 0);
        bench.shelve(1);
        bench.slide(0, 200001, 0);
        bench.cut(0, 1, 0, 1);
        due("count(3): no changes", bench.count(3), 1);
        bench.undo();
        due("count(5): shelves stay", bench.count(5), 1);
        due("count(2): figures stay", bench.count(2), 1);

        bench = box(8, 4);
        bench.shelve(0);
        bench.cut(4, 0, 4, 4);
        bench.part(0, 2, 0, 0, 1);
        bench.join(0, 2);
        bench.fetch(0);
        bench.third(0);
        due("undo() of third", bench.undo(), 5);
        due("undo() of fetch", bench.undo(), 4);
        due("count(0)", bench.count(0), 2);
        due("undo() of join", bench.undo(), 3);
        due("count(0)", bench.count(0), 3);
        due("undo() of part", bench.undo(), 2);
        due("count(0)", bench.count(0), 2);

        bench = begun(1, 0, 0, 4, 0, 0, 4);
        bench.aside(0, 1);
        bench.half(0, 4, 4);
        bench.back();
        due("undo() of back", bench.undo(), 3);
        dueMove(bench, 0, -1, 4, 4);
        due("undo() of half", bench.undo(), 2);
        dueMove(bench, 0, 1, 0, 0);
        due("about(0, 5)", bench.about(0, 5), 1);
        due("undo() of aside", bench.undo(), 1);
        due("about(0, 5)", bench.about(0, 5), 0);
    }

    private static void redo() {
        holds(14);
        ScissorsBench bench = box(8, 4);
        due("redo() of nothing", bench.redo(), NO);
        bench.cut(2, 0, 2, 4);
        bench.slide(0, 0, 9);
        bench.undo();
        bench.undo();
        due("redo() of cut", bench.redo(), 1);
        due("count(0)", bench.count(0), 2);
        dueMove(bench, 0, 1, 0, 0);
        due("count(3)", bench.count(3), 2);
        bench.slide(9, 0, 0);
        bench.shelve(0);
        bench.corner(0, 0);
        bench.figure(3);
        due("redo() of slide, behind what is no change", bench.redo(), 0);
        dueMove(bench, 0, 1, 0, 9);
        due("redo() of nothing", bench.redo(), NO);
        bench.undo();
        bench.undo();
        due("another change", bench.slide(0, 0, 0), 0);
        due("redo() behind it", bench.redo(), NO);
        due("count(4)", bench.count(4), 0);

        bench = box(8, 4);
        for (int i = 1; i <= 9; i++) {
            bench.slide(0, 1, 0);
        }
        for (int i = 0; i < 7; i++) {
            bench.undo();
        }
        for (int i = 5; i >= 0; i--) {
            due("redo()", bench.redo(), i);
            dueMove(bench, 0, 1, 9 - i, 0);
        }
        due("count(3)", bench.count(3), 6);
        bench.undo();
        bench.undo();
        bench.slide(0, 0, 5);
        due("count(3)", bench.count(3), 5);
        bench.undo();
        due("redo() of the other change", bench.redo(), 0);
        dueMove(bench, 0, 1, 7, 5);
    }

    private static void isOf() {
        holds(15);
        dueKinds(begun(1, 0, 0, 4, 0, 0, 4), 0, 1, 1, 0, 0, 0);
        dueKinds(box(4, 4), 0, 1, 0, 1, 1, 0);
        dueKinds(begun(1, 0, 0, 4, 1, 6, 4, 2, 3), 0, 1, 0, 1, 0, 0);
        dueKinds(begun(1, 0, 0, 4, 0, 6, 4, 2, 4), 0, 1, 0, 1, 0, 0);
        dueKinds(begun(1, 0, 0, 4, 2, 4, 6, 0, 4), 0, 1, 0, 1, 0, 0);
        dueKinds(begun(1, 0, 2, 2, 0, 4, 2, 2, 4), 0, 1, 0, 1, 0, 0);
        dueKinds(begun(1, 0, 0, 6, 0, 4, 4, 2, 4), 0, 1, 0, 0, 0, 0);
        dueKinds(begun(1, 0, 0, 6, 0, 6, 5, 0, 4), 0, 1, 0, 0, 0, 0);
        dueKinds(begun(1, 0, 0, 4, 0, 5, 2, 4, 4, 0, 4), 0, 1, 0, 0, 0, 0);
        ScissorsBench bench = begun(1, 0, 0, 4, 0, 0, 4);
        bench.aside(0, 1);
        bench.half(0, 1, 1);
        dueKinds(bench, 0, 1, 1, 0, 0, 1);
        due("kind -1", bench.isOf(0, -1), BAD);
        due("kind 5", bench.isOf(0, 5), BAD);
        due("kind highest", bench.isOf(0, HIGHEST), BAD);
        due("piece 1", bench.isOf(1, 0), BAD);
        due("piece -1", bench.isOf(-1, 0), BAD);
    }

    private static void about() {
        holds(16);
        ScissorsBench bench = begun(1, 0, 0, 4, 0, 0, 5);
        bench.half(0, 7, 8);
        bench.aside(0, 1);
        long[] want = {3, 20, -1, 7, 8, 1};
        for (int what = 0; what < 6; what++) {
            due("about(0, " + what + ")", bench.about(0, what), want[what]);
        }
        due("what -1", bench.about(0, -1), BAD);
        due("what 6", bench.about(0, 6), BAD);
        due("piece 1", bench.about(1, 0), BAD);
        due("piece -1", bench.about(-1, 0), BAD);
        due("piece lowest", bench.about(LOWEST, LOWEST), BAD);
        bench = begun(100000, -1, -1, 1, -1, 1, 1, -1, 1);
        due("about(0, 1)", bench.about(0, 1), 80000000000L);
    }

    private static void at() {
        holds(17);
        ScissorsBench bench = begun(1, 0, 0, 4, 0, 4, 2, 0, 5);
        bench.half(0, 10, 10);
        dueCorners(bench, 0, 0, 6, 8, 10, 5, 10, 10, 6, 10);
        dueCorners(bench, 0, 2, 0, 0, 4, 0, 4, 2, 0, 5);
        due("corner 4", bench.at(0, 4, 0), NONE);
        due("corner 4 of the origin", bench.at(0, 4, 3), NONE);
        due("corner highest", bench.at(0, HIGHEST, 0), NONE);
        due("corner -1", bench.at(0, -1, 0), BAD);
        due("what -1", bench.at(0, 0, -1), BAD);
        due("what 4", bench.at(0, 0, 4), BAD);
        due("what 4 of no corner", bench.at(0, 9, 4), BAD);
        due("piece 1", bench.at(1, 0, 0), BAD);
        due("piece -1", bench.at(-1, 9, 0), BAD);
    }

    private static void over() {
        holds(18);
        ScissorsBench bench = box(8, 4);
        bench.cut(4, 0, 4, 4);
        due("side to side", bench.over(0, 1), 0);
        bench.slide(0, 0, 4);
        due("corner to corner", bench.over(0, 1), 0);
        bench.slide(0, 1, -1);
        due("a corner in the other", bench.over(0, 1), 1);
        due("the other way", bench.over(1, 0), 1);
        bench.back();
        bench.slide(0, 4, 0);
        due("one on the other", bench.over(0, 1), 1);
        bench.slide(0, 100, 0);
        due("far away", bench.over(0, 1), 0);

        bench = box(4, 4);
        bench.cut(0, 2, 2, 4);
        dueCorners(bench, 0, 0, 0, 2, 2, 4, 0, 4);
        bench.slide(0, 3, 2);
        due("a corner on a side alone", bench.over(0, 1), 0);
        due("a corner on a side alone, the other way", bench.over(1, 0), 0);
        bench.slide(0, 0, -1);
        due("a corner through a side", bench.over(0, 1), 1);

        bench = box(4, 1);
        bench.cut(0, 1, 4, 0);
        due("no whole place inside", bench.over(0, 1), 0);
        bench.slide(0, -1, 0);
        due("over at no whole place", bench.over(0, 1), 1);
        bench.aside(0, 1);
        bench.aside(1, 1);
        due("spare ones", bench.over(0, 1), 1);

        bench = begun(2, ROUND);
        bench.cut(-8, 8, 10, 10);
        bench.half(0, 2, 18);
        due("halves on one another", bench.over(0, 1), 1);
        bench.half(0, 2, 18);
        due("halves beside one another", bench.over(0, 1), 0);
        due("the same one", bench.over(0, 0), BAD);
        due("piece -1", bench.over(-1, 0), BAD);
        due("other 2", bench.over(0, 2), BAD);
        due("other highest", bench.over(0, HIGHEST), BAD);
    }

    private static void find() {
        holds(19);
        ScissorsBench bench = box(8, 4);
        bench.cut(4, 0, 4, 4);
        due("inside of the first", bench.find(1, 1), 0);
        due("inside of the second", bench.find(5, 1), 1);
        due("on the side of both", bench.find(4, 2), 0);
        due("on a side", bench.find(8, 2), 1);
        due("at a corner", bench.find(8, 4), 1);
        due("beside all", bench.find(9, 4), NONE);
        due("on a side's line", bench.find(4, 5), NONE);
        bench.slide(0, 3, 1);
        due("where it is now", bench.find(7, 5), 0);
        due("where it was", bench.find(1, 1), NONE);
        bench = begun(1, 0, 0, 4, 0, 0, 4);
        bench.aside(0, 1);
        due("a spare one", bench.find(1, 1), 0);
        due("x 100001", bench.find(100001, 0), BAD);
        due("x -100001", bench.find(-100001, 0), BAD);
        due("y 100001", bench.find(0, 100001), BAD);
        due("y lowest", bench.find(0, LOWEST), BAD);
        due("at the bounds", bench.find(-100000, 100000), NONE);
    }

    private static void covers() {
        holds(20);
        ScissorsBench bench = box(8, 4);
        told(bench, 1, 1, 0, 0, 4, 0, 4, 8, 0, 8);
        told(bench, 2, 1, 0, 0, 16, 0, 16, 4, 0, 4);
        due("covers(0)", bench.covers(0), 0);
        due("covers(1)", bench.covers(1), 1);
        due("covers(2)", bench.covers(2), 2000);
        bench.cut(4, 0, 4, 4);
        due("covers(0), cut", bench.covers(0), 0);
        due("covers(1), cut", bench.covers(1), 2);
        bench.slide(1, -4, 4);
        due("covers(1), slid", bench.covers(1), 0);
        due("covers(0), slid", bench.covers(0), 2);
        bench.slide(1, 0, -1);
        due("covers(1), one over the other", bench.covers(1), 101);
        due("covers(2), over, too", bench.covers(2), 2);
        bench.back();
        bench.slide(1, -1, 0);
        due("covers(0), one over the other", bench.covers(0), 101);
        due("covers(2), one over the other", bench.covers(2), 101);
        bench.back();
        bench.cut(0, 0, 4, 4);
        due("count(0)", bench.count(0), 3);
        bench.slide(2, 4, 0);
        due("pieces 1 and 2", bench.covers(0), 142);
        bench.aside(2, 1);
        due("one of them spare", bench.covers(0), 2000);
        bench.slide(2, 50, 0);
        due("a spare one outside", bench.covers(0), 2000);
        bench.slide(0, 50, 0);
        bench.aside(0, 1);
        due("two spare", bench.covers(0), 2000);
        told(bench, 4, 1, 4, 0, 8, 0, 8, 4, 4, 4);
        due("what is not spare covers", bench.covers(4), 0);

        bench = box(40, 2);
        for (int x = 1; x < 40; x++) {
            bench.cut(x, 0, x, 2);
        }
        due("covers(0) with 40", bench.covers(0), 0);
        bench.slide(39, -1, 0);
        due("the last two", bench.covers(0), 100 + 40 * 38 + 39);
        bench.slide(39, 2, 0);
        due("the last one", bench.covers(0), 40);
        bench.slide(38, 2, 0);
        due("the last two outside", bench.covers(0), 39);
        due("none told", bench.covers(3), NO);
        due("k -1", bench.covers(-1), BAD);
        due("k 5", bench.covers(5), BAD);

        bench = new ScissorsBench();
        told(bench, 0, 1, 0, 0, 4, 0, 0, 4);
        due("without pieces", bench.covers(0), 2000);
    }

    private static void sums() {
        holds(21);
        ScissorsBench bench = box(6, 4);
        due("sums() of a box", bench.sums(), 0);
        bench.cut(0, 0, 6, 4);
        due("sums() of it cut", bench.sums(), 0);
        bench.slide(0, 5, 5);
        due("sums() of it slid", bench.sums(), 0);
        bench.half(0, 0, 0);
        due("sums() of it turned", bench.sums(), 3);
        bench.aside(0, 1);
        bench.aside(1, 1);
        due("sums() of spare ones", bench.sums(), 0);
        bench = begun(1, 0, 0, 4, 0, 0, 4);
        due("sums() of a triangle", bench.sums(), 3);
        bench.cut(0, 2, 2, 2);
        due("sums() of it cut", bench.sums(), 3);
        due("sums() of all round", begun(1, ROUND).sums(), 0);
    }

    private static void sum() {
        holds(22);
        ScissorsBench bench = begun(1, 0, 0, 12, 0, 6, 8);
        due("sum(0, 2), not asked for sums() before", bench.sum(0, 2), 12);
        dueSums(bench, 1, 0, 12, 3, -4, -2, 3, 4, -2);
        bench.half(0, 0, 0);
        dueSums(bench, 1, 0, -12, 3, -4, 2, 3, 4, 2);
        bench = begun(1, 0, 0, 6, 0, 0, 9);
        dueSums(bench, 0, 1, -9, 1, 0, 6, 2, -3, -3);
        bench.cut(0, 3, 4, 3);
        dueSums(bench, 0, 1, -9, 1, 0, 6, 2, -3, -3);
        bench.half(0, 0, 0);
        dueSums(bench, 0, 1, 3, 1, 0, -2, 2, -3, 1);
        bench.aside(0, 1);
        dueSums(bench, 0, 1, -3, 1, 0, 2, 2, -3, -1);
        due("i 3", bench.sum(3, 0), NONE);
        due("i highest", bench.sum(HIGHEST, 2), NONE);
        due("i -1", bench.sum(-1, 0), BAD);
        due("what -1", bench.sum(0, -1), BAD);
        due("what 3", bench.sum(0, 3), BAD);
        due("what 3, i beyond", bench.sum(9, 3), BAD);
        due("none at all", new ScissorsBench().sum(0, 0), NONE);
        bench = begun(100000, -1, -1, 1, -1, -1, 1);
        dueSums(bench, 0, 1, -200000, 1, -1, -200000, 1, 0, 200000);
    }

    private static void shelve() {
        holds(23);
        ScissorsBench bench = new ScissorsBench();
        due("shelve without pieces", bench.shelve(3), 0);
        due("count(5)", bench.count(5), 1);
        told(bench, 0, 1, 0, 0, 4, 0, 4, 4, 0, 4);
        bench.begin(0);
        bench.cut(0, 0, 4, 4);
        due("shelve(0)", bench.shelve(0), 2);
        due("count(0): they stay", bench.count(0), 2);
        due("count(3): no change", bench.count(3), 2);
        bench.slide(0, 1, 1);
        bench.aside(1, 1);
        bench.fetch(0);
        dueMove(bench, 0, 1, 0, 0);
        due("about(1, 5): as it was laid", bench.about(1, 5), 0);
        due("shelve(0) again", bench.begin(0) + bench.shelve(0), 1);
        due("fetch(0)", bench.fetch(0), 1);
        due("fetch(3)", bench.fetch(3), 0);
        due("k -1", bench.shelve(-1), BAD);
        due("k 4", bench.shelve(4), BAD);
        due("k highest", bench.shelve(HIGHEST), BAD);
        due("count(5)", bench.count(5), 2);
    }

    private static void fetch() {
        holds(24);
        ScissorsBench bench = box(4, 4);
        bench.cut(0, 0, 4, 4);
        bench.half(0, 4, 4);
        bench.aside(0, 1);
        bench.shelve(2);
        bench.begin(0);
        due("fetch(2)", bench.fetch(2), 2);
        dueMove(bench, 0, -1, 4, 4);
        due("about(0, 5)", bench.about(0, 5), 1);
        due("count(3): a change", bench.count(3), 6);
        bench.slide(0, 1, 1);
        due("fetch(2) again", bench.fetch(2), 2);
        dueMove(bench, 0, -1, 4, 4);
        due("fetch(0)", bench.fetch(0), NO);
        due("fetch(-1)", bench.fetch(-1), BAD);
        due("fetch(4)", bench.fetch(4), BAD);
        due("undo()", bench.undo(), 5);
        dueMove(bench, 0, -1, 5, 5);
    }

    private static void third() {
        holds(25);
        ScissorsBench bench = box(8, 4);
        bench.cut(4, 0, 4, 4);
        bench.slide(1, -4, 4);
        bench.shelve(0);
        bench.begin(0);
        due("the third of a whole one", bench.third(0), 2);
        dueMove(bench, 1, 1, -4, 4);
        dueCorners(bench, 1, 2, 4, 0, 8, 0, 8, 4, 4, 4);

        // Two ways to cut a box of 4 by 8 from one of 8 by 4: the third knows both.
        told(bench, 1, 1, 0, 0, 4, 0, 4, 8, 0, 8);
        bench.begin(1);
        bench.cut(4, 2, 0, 2);
        bench.half(1, 4, 12);
        bench.shelve(1);
        bench.begin(0);
        bench.cut(4, 0, 4, 4);
        bench.slide(1, -4, 4);
        due("covers(1)", bench.covers(1), 0);
        due("third(1)", bench.third(1), 3);
        dueMove(bench, 0, 1, 0, 0);
        dueCorners(bench, 0, 2, 0, 0, 4, 0, 4, 2, 0, 2);
        dueMove(bench, 1, -1, 4, 12);
        dueCorners(bench, 1, 2, 0, 2, 4, 2, 4, 4, 0, 4);
        dueCorners(bench, 1, 0, 0, 8, 4, 8, 4, 10, 0, 10);
        dueMove(bench, 2, -1, 8, 8);
        dueCorners(bench, 2, 2, 4, 0, 8, 0, 8, 4, 4, 4);
        dueCorners(bench, 2, 0, 0, 4, 4, 4, 4, 8, 0, 8);

        bench = begun(1, 0, 0, 4, 0, 0, 4);
        bench.half(0, 5, 6);
        bench.aside(0, 1);
        bench.shelve(0);
        bench.back();
        bench.half(0, 3, 3);
        due("turned, in a turned plan, both spare", bench.third(0), 1);
        dueCorners(bench, 0, 2, 0, 2, 2, 0, 3, 0, 3, 1, 1, 3, 0, 3);
        dueMove(bench, 0, 1, 2, 3);
        due("about(0, 5)", bench.about(0, 5), 0);
        due("count(3)", bench.count(3), 6);

        bench = box(4, 4);
        bench.shelve(3);
        bench.slide(0, 4, 0);
        due("side to side", bench.third(3), 0);
        due("count(0)", bench.count(0), 0);
        due("without pieces", bench.third(3), 0);
        bench.shelve(2);
        bench.begin(0);
        due("with a plan of none", bench.third(2), 0);
    }

    private static void thirdRefused() {
        holds(25);
        ScissorsBench bench = begun(4, ROUND);
        told(bench, 1, 1, -100, -34, 200, 66, 200, 100, -100, 100);
        bench.shelve(0);
        bench.begin(1);
        due("17 corners", bench.third(0), FULL);
        due("count(0)", bench.count(0), 1);
        due("about(0, 0)", bench.about(0, 0), 4);
        due("count(3)", bench.count(3), 2);
        told(bench, 1, 1, -100, -100, 100, -100, 100, 100, -100, 100);
        bench.begin(1);
        due("16 corners", bench.third(0), 1);
        due("about(0, 0)", bench.about(0, 0), 16);
        told(bench, 1, 1, 2, 0, 12, 2, 100, 100, -100, 100, -100, -20);
        bench.begin(1);
        due("17 corners, not whole", bench.third(0), OFF);

        bench = box(40, 2);
        for (int x = 1; x < 40; x++) {
            bench.cut(x, 0, x, 2);
        }
        bench.shelve(0);
        due("40 of 40", bench.third(0), 40);
        bench.back();
        bench.slide(39, -1, 0);
        due("40 of 40, one on another", bench.third(0), 40);
        bench.begin(0);
        bench.cut(0, 1, 40, 1);
        due("the 41st", bench.third(0), FULL);
        due("count(0)", bench.count(0), 2);
        bench.part(1, 40, 0, -39, 1);
        due("the 41st, and one behind it not whole", bench.third(0), FULL);
        bench.begin(0);
        bench.cut(0, 1, 40, 1);
        bench.part(1, 40, 0, -40, 1);
        due("the 41st, itself not whole", bench.third(0), OFF);
        due("count(0)", bench.count(0), 3);
        bench.begin(0);
        bench.cut(0, 1, 40, 2);
        due("the first, not whole", bench.third(0), OFF);

        bench = box(1, 1);
        bench.cut(0, 1, 1, 0);
        bench.shelve(0);
        bench.begin(0);
        bench.cut(0, 0, 1, 1);
        due("crossing at half a grain", bench.third(0), OFF);
        bench = begun(100000, -1, -1, 1, -1, 1, 1);
        bench.shelve(0);
        told(bench, 1, 100000, -1, 1, 1, -1, 1, 1);
        bench.begin(1);
        due("crossing in the middle of all", bench.third(0), 1);
        dueCorners(bench, 0, 0, 0, 0, 100000, -100000, 100000, 100000);
        told(bench, 1, 1, -100000, 99999, 100000, -100000, 100000, 100000);
        bench.begin(1);
        due("crossing beside it", bench.third(0), OFF);

        due("none laid", bench.third(1), NO);
        due("k -1", bench.third(-1), BAD);
        due("k 4", bench.third(4), BAD);
        due("k lowest", bench.third(LOWEST), BAD);
    }

    private static void count() {
        holds(26);
        ScissorsBench bench = box(6, 4);
        told(bench, 4, 1, 0, 0, 4, 0, 0, 4);
        told(bench, 4, 1, 0, 0, 5, 0, 0, 5);
        bench.corner(1, 2);
        bench.cut(0, 0, 6, 4);
        bench.aside(1, 1);
        bench.undo();
        bench.redo();
        bench.slide(0, 1, 1);
        bench.undo();
        bench.shelve(3);
        bench.shelve(3);
        long[] want = {2, 1, 2, 3, 1, 1, 24};
        for (int what = 0; what <= 6; what++) {
            due("count(" + what + ")", bench.count(what), want[what]);
        }
        bench.aside(1, 0);
        due("count(6)", bench.count(6), 48);
        due("what -1", bench.count(-1), BAD);
        due("what 7", bench.count(7), BAD);
        due("what highest", bench.count(HIGHEST), BAD);
        due("what lowest", bench.count(LOWEST), BAD);
    }
}
