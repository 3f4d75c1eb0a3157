import java.math.BigInteger;
import java.util.ArrayList;
import java.util.Comparator;
import java.util.List;
import java.util.TreeMap;

/**
 * The document once more, made another way: places are fractions, what is in two rings is found by clipping, whether a
 * ring has no inward corners by the hull of its corners, and states are lists that never change.
 */
final class PlainBench {
    private static final long BAD = Due.BAD;
    private static final long NO = Due.NO;
    private static final long FULL = Due.FULL;
    private static final long OFF = Due.OFF;
    private static final long NONE = Due.NONE;

    private static final BigInteger ZERO = BigInteger.ZERO;

    /** A place (x / d, y / d), d above 0, told in lowest terms. */
    record At(BigInteger x, BigInteger y, BigInteger d) {
        static At of(long x, long y) {
            return new At(BigInteger.valueOf(x), BigInteger.valueOf(y), BigInteger.ONE);
        }

        static At of(BigInteger x, BigInteger y, BigInteger d) {
            BigInteger g = x.gcd(y).gcd(d);
            BigInteger by = d.signum() < 0 ? g.negate() : g;
            return new At(x.divide(by), y.divide(by), d.divide(by));
        }

        boolean whole() {
            return d.equals(BigInteger.ONE);
        }

        int order(At o) {
            int byX = x.multiply(o.d).compareTo(o.x.multiply(d));
            return byX != 0 ? byX : y.multiply(o.d).compareTo(o.y.multiply(d));
        }

        boolean inBounds() {
            BigInteger most = d.multiply(BigInteger.valueOf(100000));
            return x.abs().compareTo(most) <= 0 && y.abs().compareTo(most) <= 0;
        }

        At moved(int turn, long a, long b) {
            BigInteger t = BigInteger.valueOf(turn);
            return of(x.multiply(t).add(d.multiply(BigInteger.valueOf(a))),
                y.multiply(t).add(d.multiply(BigInteger.valueOf(b))), d);
        }
    }

    record Piece(List<At> origin, int turn, long a, long b, boolean spare) {
        List<At> place() {
            return moved(origin, turn, a, b);
        }

        Piece to(int newTurn, long newA, long newB) {
            return new Piece(origin, newTurn, newA, newB, spare);
        }

        /** The piece whose place is this one, by the same move. */
        Piece with(List<At> newPlace) {
            return new Piece(moved(newPlace, turn, -turn * a, -turn * b), turn, a, b, false);
        }

        boolean sameMove(Piece o) {
            return turn == o.turn && a == o.a && b == o.b;
        }
    }

    private List<At> hand = new ArrayList<>();
    private final List<List<At>> figures = new ArrayList<>();
    private List<Piece> pieces = List.of();
    private final List<List<Piece>> before = new ArrayList<>();
    private final List<List<Piece>> behind = new ArrayList<>();
    private final List<List<Piece>> plans = new ArrayList<>();

    PlainBench() {
        for (int k = 0; k < 5; k++) {
            figures.add(null);
        }
        for (int k = 0; k < 4; k++) {
            plans.add(null);
        }
    }

    // ---- fractions and rings

    private static BigInteger cross(At a, At b, At c) {
        BigInteger ux = b.x.multiply(a.d).subtract(a.x.multiply(b.d));
        BigInteger uy = b.y.multiply(a.d).subtract(a.y.multiply(b.d));
        BigInteger vx = c.x.multiply(a.d).subtract(a.x.multiply(c.d));
        BigInteger vy = c.y.multiply(a.d).subtract(a.y.multiply(c.d));
        return ux.multiply(vy).subtract(uy.multiply(vx));
    }

    /** The corners round all these places, against the clock from the least; less than three: no inside. */
    static List<At> hull(List<At> places) {
        List<At> sorted = new ArrayList<>(places);
        sorted.sort(At::order);
        List<At> round = new ArrayList<>();
        At here = sorted.get(0);
        for (int i = 0; i <= places.size(); i++) {
            round.add(here);
            At next = here;
            for (At other : sorted) {
                if (other.equals(here)) {
                    continue;
                }
                int side = next.equals(here) ? -1 : cross(here, next, other).signum();
                boolean farther = side == 0 && !between(here, other, next);
                if (side < 0 || farther) {
                    next = other;
                }
            }
            here = next;
            if (here.equals(sorted.get(0))) {
                break;
            }
        }
        return round;
    }

    private static boolean between(At a, At m, At b) {
        return a.order(m) * m.order(b) > 0 || m.equals(b) || m.equals(a);
    }

    private static List<At> moved(List<At> ring, int turn, long a, long b) {
        List<At> moved = new ArrayList<>();
        for (At corner : ring) {
            moved.add(corner.moved(turn, a, b));
        }
        return hull(moved);
    }

    /** What of a ring is to the left of the line from a to b, or an empty list, if that has no inside. */
    private static List<At> clip(List<At> ring, At a, At b) {
        List<At> left = new ArrayList<>();
        for (int i = 0; i < ring.size(); i++) {
            At p = ring.get(i);
            At q = ring.get((i + 1) % ring.size());
            // Both over the square of the line's d, so that p's is over its own d, and q's over its own.
            BigInteger sp = cross(a, b, p).multiply(q.d);
            BigInteger sq = cross(a, b, q).multiply(p.d);
            if (sp.signum() >= 0) {
                left.add(p);
            }
            if (sp.signum() * sq.signum() < 0) {
                BigInteger w = sp.subtract(sq);
                BigInteger px = p.x.multiply(q.d);
                BigInteger py = p.y.multiply(q.d);
                BigInteger dx = q.x.multiply(p.d).subtract(px);
                BigInteger dy = q.y.multiply(p.d).subtract(py);
                left.add(At.of(px.multiply(w).add(dx.multiply(sp)), py.multiply(w).add(dy.multiply(sp)),
                    w.multiply(p.d).multiply(q.d)));
            }
        }
        if (left.isEmpty()) {
            return left;
        }
        List<At> ringLeft = hull(left);
        return ringLeft.size() < 3 ? List.of() : ringLeft;
    }

    private static List<At> common(List<At> p, List<At> q) {
        List<At> rest = p;
        for (int i = 0; i < q.size() && !rest.isEmpty(); i++) {
            rest = clip(rest, q.get(i), q.get((i + 1) % q.size()));
        }
        return rest;
    }

    private static boolean whole(List<At> ring) {
        return ring.stream().allMatch(At::whole);
    }

    private static long twiceArea(List<At> ring) {
        BigInteger area = ZERO;
        for (int i = 1; i + 1 < ring.size(); i++) {
            area = area.add(cross(ring.get(0), ring.get(i), ring.get(i + 1)));
        }
        return area.longValueExact();
    }

    private static boolean inBounds(List<At> ring) {
        return ring.stream().allMatch(At::inBounds);
    }

    /** Whether a place is inside of a ring or on its sides: with it, the hull stays as it is. */
    private static boolean holds(List<At> ring, At place) {
        List<At> with = new ArrayList<>(ring);
        with.add(place);
        return hull(with).equals(ring);
    }

    // ---- numbers

    private static boolean grains(long x, long y) {
        return Math.abs(x) <= 100000 && Math.abs(y) <= 100000;
    }

    private boolean noPiece(int p) {
        return p < 0 || p >= pieces.size();
    }

    private boolean noFigure(int k) {
        return k < 0 || k > 4;
    }

    private boolean noShelf(int k) {
        return k < 0 || k > 3;
    }

    private void change(List<Piece> next) {
        before.add(pieces);
        if (before.size() > 6) {
            before.remove(0);
        }
        behind.clear();
        pieces = List.copyOf(next);
    }

    private long change(int p, Piece piece) {
        List<Piece> next = new ArrayList<>(pieces);
        next.set(p, piece);
        change(next);
        return 0;
    }

    // ---- figures

    long corner(int x, int y) {
        if (!grains(x, y)) {
            return BAD;
        }
        if (hand.size() == 16) {
            return FULL;
        }
        hand.add(At.of(x, y));
        return hand.size();
    }

    long figure(int k) {
        if (noFigure(k)) {
            return BAD;
        }
        List<At> told = hand;
        hand = new ArrayList<>();
        if (told.size() < 3) {
            return NO;
        }
        List<At> hull = hull(told);
        if (hull.size() != told.size() || hull.size() < 3) {
            return NO;
        }
        int first = told.indexOf(hull.get(0));
        int n = told.size();
        boolean forth = true;
        boolean back = true;
        for (int i = 0; i < n; i++) {
            forth = forth && told.get((first + i) % n).equals(hull.get(i));
            back = back && told.get((first - i + n) % n).equals(hull.get(i));
        }
        if (!forth && !back) {
            return NO;
        }
        figures.set(k, hull);
        return n;
    }

    long area(int k) {
        if (noFigure(k)) {
            return BAD;
        }
        return figures.get(k) == null ? NO : twiceArea(figures.get(k));
    }

    long begin(int k) {
        if (noFigure(k)) {
            return BAD;
        }
        if (figures.get(k) == null) {
            return NO;
        }
        change(List.of(new Piece(figures.get(k), 1, 0, 0, false)));
        return 0;
    }

    // ---- acts

    private static boolean crosses(Piece piece, At a, At b) {
        return !clip(piece.place(), a, b).isEmpty() && !clip(piece.place(), b, a).isEmpty();
    }

    long cut(int ax, int ay, int bx, int by) {
        if (!grains(ax, ay) || !grains(bx, by) || (ax == bx && ay == by)) {
            return BAD;
        }
        return cutThose(At.of(ax, ay), At.of(bx, by), -1);
    }

    long part(int piece, int ax, int ay, int dx, int dy) {
        if (noPiece(piece) || !grains(ax, ay) || (dx == 0 && dy == 0) || dx < -1000 || dx > 1000 || dy < -1000
                || dy > 1000) {
            return BAD;
        }
        At a = At.of(ax, ay);
        At b = At.of(ax + dx, ay + dy);
        if (!crosses(pieces.get(piece), a, b)) {
            return NO;
        }
        long was = pieces.size();
        long answer = cutThose(a, b, piece);
        return answer < 0 ? answer : was;
    }

    private long cutThose(At a, At b, int only) {
        List<Piece> next = new ArrayList<>(pieces);
        boolean many = false;
        boolean whole = true;
        for (int p = 0; p < pieces.size(); p++) {
            Piece piece = pieces.get(p);
            if ((only >= 0 && only != p) || !crosses(piece, a, b)) {
                continue;
            }
            List<At> left = clip(piece.place(), a, b);
            List<At> right = clip(piece.place(), b, a);
            many = many || left.size() > 16 || right.size() > 16;
            whole = whole && whole(left) && whole(right);
            next.set(p, piece.with(left));
            next.add(piece.with(right));
        }
        if (many || next.size() > 40) {
            return FULL;
        }
        if (!whole) {
            return OFF;
        }
        long cut = next.size() - pieces.size();
        change(next);
        return cut;
    }

    private static boolean farNumber(long number) {
        return number < -200000 || number > 200000;
    }

    private long move(int piece, Piece to) {
        return inBounds(to.place()) ? change(piece, to) : BAD;
    }

    long slide(int piece, int dx, int dy) {
        if (noPiece(piece) || farNumber(dx) || farNumber(dy)) {
            return BAD;
        }
        Piece p = pieces.get(piece);
        return move(piece, p.to(p.turn, p.a + dx, p.b + dy));
    }

    long half(int piece, int a, int b) {
        if (noPiece(piece) || farNumber(a) || farNumber(b)) {
            return BAD;
        }
        Piece p = pieces.get(piece);
        return move(piece, p.to(-p.turn, a - p.a, b - p.b));
    }

    private static boolean haveSide(List<At> p, List<At> q) {
        for (int i = 0; i < p.size(); i++) {
            int d = q.indexOf(p.get(i));
            if (d >= 0 && q.get((d + q.size() - 1) % q.size()).equals(p.get((i + 1) % p.size()))) {
                return true;
            }
        }
        return false;
    }

    /** A piece that has a side in common with one, by the same move; -1: there is none. */
    int beside(int piece) {
        for (int q = 0; q < pieces.size() && !noPiece(piece); q++) {
            if (q != piece && pieces.get(piece).sameMove(pieces.get(q))
                    && haveSide(pieces.get(piece).place(), pieces.get(q).place())) {
                return q;
            }
        }
        return -1;
    }

    long join(int piece, int other) {
        if (noPiece(piece) || noPiece(other) || piece == other) {
            return BAD;
        }
        Piece p = pieces.get(piece);
        Piece q = pieces.get(other);
        if (!p.sameMove(q) || !haveSide(p.place(), q.place())) {
            return NO;
        }
        List<At> all = new ArrayList<>(p.place());
        all.addAll(q.place());
        List<At> hull = hull(all);
        // They lie beside one another: their hull has more than they have where there is an inward corner.
        if (twiceArea(hull) != twiceArea(p.place()) + twiceArea(q.place())) {
            return NO;
        }
        if (hull.size() > 16) {
            return FULL;
        }
        List<Piece> next = new ArrayList<>(pieces);
        next.set(piece, p.with(hull));
        next.remove(other);
        change(next);
        return hull.size();
    }

    long aside(int piece, int on) {
        if (noPiece(piece) || (on != 0 && on != 1)) {
            return BAD;
        }
        Piece p = pieces.get(piece);
        if (on == 1 && p.origin.size() != 3) {
            return NO;
        }
        change(piece, new Piece(p.origin, p.turn, p.a, p.b, on == 1));
        return p.spare ? 1 : 0;
    }

    long back() {
        List<Piece> next = new ArrayList<>();
        long other = 0;
        for (Piece p : pieces) {
            other += p.turn == 1 && p.a == 0 && p.b == 0 ? 0 : 1;
            next.add(p.to(1, 0, 0));
        }
        change(next);
        return other;
    }

    long undo() {
        if (before.isEmpty()) {
            return NO;
        }
        behind.add(pieces);
        pieces = before.remove(before.size() - 1);
        return before.size();
    }

    long redo() {
        if (behind.isEmpty()) {
            return NO;
        }
        before.add(pieces);
        pieces = behind.remove(behind.size() - 1);
        return behind.size();
    }

    // ---- pieces

    private static At step(List<At> ring, int i) {
        At from = ring.get(i % ring.size());
        return ring.get((i + 1) % ring.size()).moved(1, -from.x.longValueExact(), -from.y.longValueExact());
    }

    private static boolean slab(List<At> ring) {
        return ring.size() == 4 && step(ring, 0).equals(step(ring, 2).moved(-1, 0, 0))
            && step(ring, 1).equals(step(ring, 3).moved(-1, 0, 0));
    }

    private static boolean upright(List<At> ring) {
        for (int i = 0; i < ring.size(); i++) {
            if (step(ring, i).x.signum() != 0 && step(ring, i).y.signum() != 0) {
                return false;
            }
        }
        return slab(ring);
    }

    long isOf(int piece, int kind) {
        if (noPiece(piece) || kind < 0 || kind > 4) {
            return BAD;
        }
        List<At> place = pieces.get(piece).place();
        boolean triangle = place.size() == 3;
        boolean[] kinds = {true, triangle, slab(place), upright(place), triangle && pieces.get(piece).spare};
        return kinds[kind] ? 1 : 0;
    }

    long about(int piece, int what) {
        if (noPiece(piece) || what < 0 || what > 5) {
            return BAD;
        }
        Piece p = pieces.get(piece);
        return new long[] {p.place().size(), twiceArea(p.place()), p.turn, p.a, p.b, p.spare ? 1 : 0}[what];
    }

    long at(int piece, int i, int what) {
        if (noPiece(piece) || i < 0 || what < 0 || what > 3) {
            return BAD;
        }
        Piece p = pieces.get(piece);
        List<At> ring = what < 2 ? p.place() : p.origin;
        if (i >= ring.size()) {
            return NONE;
        }
        return (what % 2 == 0 ? ring.get(i).x : ring.get(i).y).longValueExact();
    }

    private boolean lieOver(int p, int q) {
        return !common(pieces.get(p).place(), pieces.get(q).place()).isEmpty();
    }

    long over(int piece, int other) {
        if (noPiece(piece) || noPiece(other) || piece == other) {
            return BAD;
        }
        return lieOver(piece, other) ? 1 : 0;
    }

    long find(int x, int y) {
        if (!grains(x, y)) {
            return BAD;
        }
        for (int p = 0; p < pieces.size(); p++) {
            if (holds(pieces.get(p).place(), At.of(x, y))) {
                return p;
            }
        }
        return NONE;
    }

    long covers(int k) {
        if (noFigure(k)) {
            return BAD;
        }
        if (figures.get(k) == null) {
            return NO;
        }
        for (int p = 0; p < pieces.size(); p++) {
            for (At corner : pieces.get(p).place()) {
                if (!pieces.get(p).spare && !holds(figures.get(k), corner)) {
                    return 1 + p;
                }
            }
        }
        for (int p = 0; p < pieces.size(); p++) {
            for (int q = p + 1; q < pieces.size(); q++) {
                if (!pieces.get(p).spare && !pieces.get(q).spare && lieOver(p, q)) {
                    return 100 + 40 * p + q;
                }
            }
        }
        return count(6) == twiceArea(figures.get(k)) ? 0 : 2000;
    }

    // ---- sums

    private List<long[]> directions() {
        TreeMap<long[], Long> sums = new TreeMap<>(
            Comparator.<long[]>comparingLong(d -> d[0]).thenComparingLong(d -> d[1]));
        for (Piece p : pieces) {
            List<At> place = p.place();
            for (int i = 0; i < place.size() && !p.spare; i++) {
                At step = step(place, i);
                long g = step.x.gcd(step.y).longValueExact();
                long s = step.x.longValueExact() / g;
                long t = step.y.longValueExact() / g;
                boolean up = s > 0 || (s == 0 && t > 0);
                sums.merge(up ? new long[] {s, t} : new long[] {-s, -t}, up ? g : -g, Long::sum);
            }
        }
        List<long[]> told = new ArrayList<>();
        sums.forEach((d, sum) -> {
            if (sum != 0) {
                told.add(new long[] {d[0], d[1], sum});
            }
        });
        return told;
    }

    long sums() {
        return directions().size();
    }

    long sum(int i, int what) {
        if (i < 0 || what < 0 || what > 2) {
            return BAD;
        }
        List<long[]> directions = directions();
        return i < directions.size() ? directions.get(i)[what] : NONE;
    }

    // ---- plans

    long shelve(int k) {
        if (noShelf(k)) {
            return BAD;
        }
        plans.set(k, pieces);
        return pieces.size();
    }

    long fetch(int k) {
        if (noShelf(k)) {
            return BAD;
        }
        if (plans.get(k) == null) {
            return NO;
        }
        change(plans.get(k));
        return pieces.size();
    }

    long third(int k) {
        if (noShelf(k)) {
            return BAD;
        }
        if (plans.get(k) == null) {
            return NO;
        }
        List<Piece> next = new ArrayList<>();
        for (Piece p : pieces) {
            for (Piece q : plans.get(k)) {
                List<At> ring = common(p.place(), q.origin);
                if (ring.isEmpty()) {
                    continue;
                }
                if (!whole(ring)) {
                    return OFF;
                }
                if (ring.size() > 16 || next.size() == 40) {
                    return FULL;
                }
                At zero = At.of(0, 0).moved(p.turn, p.a, p.b).moved(q.turn, q.a, q.b);
                Piece made = p.with(ring).to(p.turn * q.turn, zero.x.longValueExact(), zero.y.longValueExact());
                if (!inBounds(made.place())) {
                    return BAD;
                }
                next.add(made);
            }
        }
        change(next);
        return next.size();
    }

    long count(int what) {
        switch (what) {
            case 0:
                return pieces.size();
            case 1:
                return hand.size();
            case 2:
                return figures.stream().filter(ring -> ring != null).count();
            case 3:
                return before.size();
            case 4:
                return behind.size();
            case 5:
                return plans.stream().filter(plan -> plan != null).count();
            case 6:
                return pieces.stream().filter(p -> !p.spare).mapToLong(p -> twiceArea(p.origin)).sum();
            default:
                return BAD;
        }
    }
}
