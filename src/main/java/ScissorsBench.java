/**
 * A bench where one figure is cut up and laid together as another one, without any rounding.
 *
 * Every row is made by the constructor and used again: a call makes no object.
 */
public final class ScissorsBench {
    public static final long BAD = -9000000000000000001L;
    public static final long NO = -9000000000000000002L;
    public static final long FULL = -9000000000000000003L;
    public static final long OFF = -9000000000000000004L;
    public static final long NONE = -9000000000000000005L;

    private static final int MOST_CORNERS = 16;
    private static final int MOST_PIECES = 40;
    private static final int FIGURES = 5;
    private static final int SHELVES = 4;
    private static final int KEPT_CHANGES = 6;
    private static final int FARTHEST = 100000;
    private static final int LONGEST_SLIDE = 200000;
    private static final int LONGEST_STEP = 1000;
    private static final int KINDS = 5;

    // The corners of two rings and the crossings of their sides, and two more while a hull closes.
    private static final int WORK_ROOM = 4 * MOST_CORNERS + 2;

    private final Ring hand;
    private final Ring[] figures;
    private final History history;
    private final Pieces[] shelves;
    private final boolean[] laid;
    private final Tally tally;

    // What follows holds nothing from one call to the next.
    private final Line line;
    private final Common common;
    private final Piece made;
    private final Ring one;
    private final Ring two;
    private final Ring left;
    private final Ring right;
    private final Ring[] places;

    public ScissorsBench() {
        hand = new Ring(MOST_CORNERS);
        figures = new Ring[FIGURES];
        for (int k = 0; k < FIGURES; k++) {
            figures[k] = new Ring(MOST_CORNERS);
        }
        history = new History();
        shelves = new Pieces[SHELVES];
        for (int k = 0; k < SHELVES; k++) {
            shelves[k] = new Pieces();
        }
        laid = new boolean[SHELVES];
        tally = new Tally();
        line = new Line();
        common = new Common();
        made = new Piece();
        one = new Ring(WORK_ROOM);
        two = new Ring(WORK_ROOM);
        left = new Ring(MOST_CORNERS);
        right = new Ring(MOST_CORNERS);
        places = new Ring[MOST_PIECES];
        for (int p = 0; p < MOST_PIECES; p++) {
            places[p] = new Ring(MOST_CORNERS);
        }
    }

    // ---- figures

    public long corner(int x, int y) {
        if (!isPlace(x, y)) {
            return BAD;
        }
        if (hand.size >= MOST_CORNERS) {
            return FULL;
        }
        hand.add(x, y);
        return hand.size;
    }

    public long figure(int k) {
        if (!isFigure(k)) {
            return BAD;
        }
        if (hand.twiceArea() < 0) {
            one.takeBackwards(hand);
        } else {
            one.take(hand);
        }
        hand.size = 0;
        if (!one.isRing()) {
            return NO;
        }
        figures[k].takeMoved(one, 1, 0, 0);
        return figures[k].size;
    }

    public long area(int k) {
        if (!isFigure(k)) {
            return BAD;
        }
        return figures[k].size == 0 ? NO : figures[k].twiceArea();
    }

    public long begin(int k) {
        if (!isFigure(k)) {
            return BAD;
        }
        if (figures[k].size == 0) {
            return NO;
        }
        made.setMove(1, 0, 0);
        made.setOrigin(figures[k]);
        history.emptyDraft().add(made);
        history.keepDraft();
        return 0;
    }

    // ---- acts

    public long cut(int ax, int ay, int bx, int by) {
        if (!isPlace(ax, ay) || !isPlace(bx, by) || (ax == bx && ay == by)) {
            return BAD;
        }
        line.set(ax, ay, bx - ax, by - ay);
        Pieces now = history.now();
        int crossed = 0;
        boolean full = false;
        for (int p = 0; p < now.size; p++) {
            now.row[p].placeInto(one);
            line.weigh(one);
            if (line.crosses()) {
                crossed++;
                full = full || line.overfills();
            }
        }
        if (full || now.size + crossed > MOST_PIECES) {
            return FULL;
        }
        return cutThose(now.size) ? crossed : OFF;
    }

    /** Cuts all pieces that the line crosses, or, if a place is not whole, none. */
    private boolean cutThose(int pieces) {
        Pieces next = history.draft();
        for (int p = 0; p < pieces; p++) {
            next.row[p].placeInto(one);
            line.weigh(one);
            if (line.crosses() && !cutOne(next, p)) {
                return false;
            }
        }
        history.keepDraft();
        return true;
    }

    /** Cuts a piece that the line crosses and does not overfill; false: a place is not whole. */
    private boolean cutOne(Pieces next, int p) {
        Piece piece = next.row[p];
        piece.placeInto(one);
        if (!line.divide(one, left, right)) {
            return false;
        }
        made.take(piece);
        made.setPlace(right);
        piece.setPlace(left);
        next.add(made);
        return true;
    }

    public long part(int piece, int ax, int ay, int dx, int dy) {
        if (!isPiece(piece) || !isPlace(ax, ay) || (dx == 0 && dy == 0)
                || !isWithin(dx, LONGEST_STEP) || !isWithin(dy, LONGEST_STEP)) {
            return BAD;
        }
        line.set(ax, ay, dx, dy);
        Pieces now = history.now();
        now.row[piece].placeInto(one);
        line.weigh(one);
        if (!line.crosses()) {
            return NO;
        }
        if (now.size >= MOST_PIECES || line.overfills()) {
            return FULL;
        }
        int behind = now.size;
        if (!cutOne(history.draft(), piece)) {
            return OFF;
        }
        history.keepDraft();
        return behind;
    }

    public long slide(int piece, int dx, int dy) {
        if (!isPiece(piece) || !isWithin(dx, LONGEST_SLIDE) || !isWithin(dy, LONGEST_SLIDE)) {
            return BAD;
        }
        Piece old = history.now().row[piece];
        return moveTo(piece, old.turn, old.a + dx, old.b + dy);
    }

    public long half(int piece, int a, int b) {
        if (!isPiece(piece) || !isWithin(a, LONGEST_SLIDE) || !isWithin(b, LONGEST_SLIDE)) {
            return BAD;
        }
        Piece old = history.now().row[piece];
        return moveTo(piece, -old.turn, a - old.a, b - old.b);
    }

    /** Gives a piece another move, if its place stays in bounds by it. */
    private long moveTo(int piece, int turn, int a, int b) {
        one.takeMoved(history.now().row[piece].origin, turn, a, b);
        if (!one.isInBounds()) {
            return BAD;
        }
        history.draft().row[piece].setMove(turn, a, b);
        history.keepDraft();
        return 0;
    }

    public long join(int piece, int other) {
        if (!isPiece(piece) || !isPiece(other) || piece == other) {
            return BAD;
        }
        Piece p = history.now().row[piece];
        Piece q = history.now().row[other];
        // As they have the same move, their origins lie to one another as their places do.
        if (!p.hasMove(q.turn, q.a, q.b) || !one.takeJoined(p.origin, q.origin)
                || !two.takeUnbent(one)) {
            return NO;
        }
        if (two.size > MOST_CORNERS) {
            return FULL;
        }
        Pieces next = history.draft();
        next.row[piece].setOrigin(two);
        next.remove(other);
        history.keepDraft();
        return two.size;
    }

    public long aside(int piece, int on) {
        if (!isPiece(piece) || on < 0 || on > 1) {
            return BAD;
        }
        Piece old = history.now().row[piece];
        if (on == 1 && !old.isTriangle()) {
            return NO;
        }
        long was = old.spare ? 1 : 0;
        history.draft().row[piece].spare = on == 1;
        history.keepDraft();
        return was;
    }

    public long back() {
        Pieces next = history.draft();
        long moved = 0;
        for (int p = 0; p < next.size; p++) {
            if (!next.row[p].hasMove(1, 0, 0)) {
                moved++;
            }
            next.row[p].setMove(1, 0, 0);
        }
        history.keepDraft();
        return moved;
    }

    public long undo() {
        return history.stepBack() ? history.kept() : NO;
    }

    public long redo() {
        return history.stepOn() ? history.undone() : NO;
    }

    // ---- pieces

    public long isOf(int piece, int kind) {
        if (!isPiece(piece) || kind < 0 || kind >= KINDS) {
            return BAD;
        }
        return history.now().row[piece].isOfKind(kind) ? 1 : 0;
    }

    public long about(int piece, int what) {
        if (!isPiece(piece)) {
            return BAD;
        }
        Piece p = history.now().row[piece];
        switch (what) {
            case 0:
                return p.origin.size;
            case 1:
                return p.origin.twiceArea();
            case 2:
                return p.turn;
            case 3:
                return p.a;
            case 4:
                return p.b;
            case 5:
                return p.spare ? 1 : 0;
            default:
                return BAD;
        }
    }

    public long at(int piece, int i, int what) {
        if (!isPiece(piece) || i < 0 || what < 0 || what > 3) {
            return BAD;
        }
        Piece p = history.now().row[piece];
        if (i >= p.origin.size) {
            return NONE;
        }
        if (what < 2) {
            p.placeInto(one);
        } else {
            one.take(p.origin);
        }
        return what % 2 == 0 ? one.x[i] : one.y[i];
    }

    public long over(int piece, int other) {
        if (!isPiece(piece) || !isPiece(other) || piece == other) {
            return BAD;
        }
        history.now().row[piece].placeInto(one);
        history.now().row[other].placeInto(two);
        return one.liesOver(two) ? 1 : 0;
    }

    public long find(int x, int y) {
        if (!isPlace(x, y)) {
            return BAD;
        }
        Pieces now = history.now();
        for (int p = 0; p < now.size; p++) {
            now.row[p].placeInto(one);
            if (one.holds(x, y)) {
                return p;
            }
        }
        return NONE;
    }

    public long covers(int k) {
        if (!isFigure(k)) {
            return BAD;
        }
        Ring figure = figures[k];
        if (figure.size == 0) {
            return NO;
        }
        Pieces now = history.now();
        for (int p = 0; p < now.size; p++) {
            now.row[p].placeInto(places[p]);
            if (!now.row[p].spare && !figure.holdsAll(places[p])) {
                return 1 + p;
            }
        }
        long pair = firstPairOver(now);
        if (pair != NONE) {
            return 100 + pair;
        }
        return now.twiceArea() == figure.twiceArea() ? 0 : 2000;
    }

    /** 40 * p + q for the first two pieces whose places, laid out in the row of places, lie over one another. */
    private long firstPairOver(Pieces now) {
        for (int p = 0; p < now.size; p++) {
            for (int q = p + 1; q < now.size; q++) {
                if (!now.row[p].spare && !now.row[q].spare && places[p].liesOver(places[q])) {
                    return MOST_PIECES * p + q;
                }
            }
        }
        return NONE;
    }

    // ---- sums

    public long sums() {
        sumSides();
        return tally.size;
    }

    public long sum(int i, int what) {
        if (i < 0 || what < 0 || what > 2) {
            return BAD;
        }
        sumSides();
        if (i >= tally.size) {
            return NONE;
        }
        if (what == 2) {
            return tally.total[i];
        }
        return what == 0 ? tally.s[i] : tally.t[i];
    }

    private void sumSides() {
        Pieces now = history.now();
        tally.size = 0;
        for (int p = 0; p < now.size; p++) {
            if (!now.row[p].spare) {
                now.row[p].placeInto(one);
                tally.addSides(one);
            }
        }
        tally.leaveOutZeros();
    }

    // ---- plans

    public long shelve(int k) {
        if (!isShelf(k)) {
            return BAD;
        }
        shelves[k].take(history.now());
        laid[k] = true;
        return shelves[k].size;
    }

    public long fetch(int k) {
        if (!isShelf(k)) {
            return BAD;
        }
        if (!laid[k]) {
            return NO;
        }
        history.draft().take(shelves[k]);
        history.keepDraft();
        return shelves[k].size;
    }

    public long third(int k) {
        if (!isShelf(k)) {
            return BAD;
        }
        if (!laid[k]) {
            return NO;
        }
        Pieces now = history.now();
        Pieces plan = shelves[k];
        Pieces next = history.emptyDraft();
        for (int p = 0; p < now.size; p++) {
            for (int q = 0; q < plan.size; q++) {
                long answer = addCommon(next, now.row[p], plan.row[q]);
                if (answer != 0) {
                    return answer;
                }
            }
        }
        history.keepDraft();
        return next.size;
    }

    /** Adds the piece of the third that p and q make, if they make one: 0, or why it is refused. */
    private long addCommon(Pieces next, Piece p, Piece q) {
        p.placeInto(one);
        if (!one.liesOver(q.origin)) {
            return 0;
        }
        if (!common.trace(one, q.origin)) {
            return OFF;
        }
        if (common.ring.size > MOST_CORNERS || next.size >= MOST_PIECES) {
            return FULL;
        }
        made.setMove(p.turn, p.a, p.b);
        made.setPlace(common.ring);
        made.setMove(q.turn * p.turn, q.turn * p.a + q.a, q.turn * p.b + q.b);
        made.placeInto(two);
        if (!two.isInBounds()) {
            return BAD;
        }
        next.add(made);
        return 0;
    }

    public long count(int what) {
        switch (what) {
            case 0:
                return history.now().size;
            case 1:
                return hand.size;
            case 2:
                return figuresTold();
            case 3:
                return history.kept();
            case 4:
                return history.undone();
            case 5:
                return plansLaid();
            case 6:
                return history.now().twiceArea();
            default:
                return BAD;
        }
    }

    private long figuresTold() {
        long told = 0;
        for (int k = 0; k < FIGURES; k++) {
            told += figures[k].size == 0 ? 0 : 1;
        }
        return told;
    }

    private long plansLaid() {
        long plans = 0;
        for (int k = 0; k < SHELVES; k++) {
            plans += laid[k] ? 1 : 0;
        }
        return plans;
    }

    // ---- what a number may be

    private boolean isPiece(int piece) {
        return piece >= 0 && piece < history.now().size;
    }

    private static boolean isFigure(int k) {
        return k >= 0 && k < FIGURES;
    }

    private static boolean isShelf(int k) {
        return k >= 0 && k < SHELVES;
    }

    private static boolean isPlace(int x, int y) {
        return isWithin(x, FARTHEST) && isWithin(y, FARTHEST);
    }

    private static boolean isWithin(int number, int most) {
        return number >= -most && number <= most;
    }

    /** Above 0 if c lies to the left of the way from a to b, 0 if on it, below 0 if to the right. */
    private static long sideOf(int ax, int ay, int bx, int by, int cx, int cy) {
        return ((long) bx - ax) * ((long) cy - ay) - ((long) by - ay) * ((long) cx - ax);
    }

    /** Corners one behind the other; behind the checks a RING of the document, before them any places. */
    private static final class Ring {
        final int[] x;
        final int[] y;
        int size;

        Ring(int room) {
            x = new int[room];
            y = new int[room];
        }

        void add(int cornerX, int cornerY) {
            if (size < x.length) {
                x[size] = cornerX;
                y[size] = cornerY;
                size++;
            }
        }

        void take(Ring from) {
            size = Math.min(from.size, x.length);
            System.arraycopy(from.x, 0, x, 0, size);
            System.arraycopy(from.y, 0, y, 0, size);
        }

        void takeBackwards(Ring from) {
            size = 0;
            for (int i = from.size - 1; i >= 0; i--) {
                add(from.x[i], from.y[i]);
            }
        }

        /** Takes what comes of another ring by a move, begun at the least corner. */
        void takeMoved(Ring from, int turn, int a, int b) {
            int first = from.leastTurned(turn);
            size = 0;
            for (int i = 0; i < from.size; i++) {
                int c = from.wrap(first + i);
                add(turn * from.x[c] + a, turn * from.y[c] + b);
            }
        }

        private int leastTurned(int turn) {
            int least = 0;
            for (int i = 1; i < size; i++) {
                int aheadX = turn * (x[least] - x[i]);
                int aheadY = turn * (y[least] - y[i]);
                if (aheadX > 0 || (aheadX == 0 && aheadY > 0)) {
                    least = i;
                }
            }
            return least;
        }

        /** Takes the way round two rings that have a side in common; false: they have none. */
        boolean takeJoined(Ring p, Ring q) {
            for (int i = 0; i < p.size; i++) {
                for (int j = 0; j < q.size; j++) {
                    if (p.isSame(i, q, q.wrap(j + 1)) && p.isSame(p.wrap(i + 1), q, j)) {
                        size = 0;
                        addFrom(p, i + 1, p.size);
                        addFrom(q, j + 2, q.size - 2);
                        return true;
                    }
                }
            }
            return false;
        }

        private void addFrom(Ring from, int first, int corners) {
            for (int i = 0; i < corners; i++) {
                int c = from.wrap(first + i);
                add(from.x[c], from.y[c]);
            }
        }

        private boolean isSame(int i, Ring other, int j) {
            return x[i] == other.x[j] && y[i] == other.y[j];
        }

        /** Takes another ring's corners but for the straight ones; false: one goes inward. */
        boolean takeUnbent(Ring from) {
            size = 0;
            for (int i = 0; i < from.size; i++) {
                int before = from.wrap(i + from.size - 1);
                int behind = from.wrap(i + 1);
                long bend = from.sideAt(before, i, from.x[behind], from.y[behind]);
                if (bend < 0) {
                    return false;
                }
                if (bend > 0) {
                    add(from.x[i], from.y[i]);
                }
            }
            return true;
        }

        /** The corner that an index below twice the size means. */
        int wrap(int i) {
            return i < size ? i : i - size;
        }

        long sideAt(int from, int to, int placeX, int placeY) {
            return sideOf(x[from], y[from], x[to], y[to], placeX, placeY);
        }

        long twiceArea() {
            long area = 0;
            for (int i = 0; i < size; i++) {
                int j = wrap(i + 1);
                area += (long) x[i] * y[j] - (long) x[j] * y[i];
            }
            return area;
        }

        /**
         * Whether this goes once round an inside, against the clock, without inward or straight corners.
         * Every other corner has to be left of every side: to look at the bends alone would let pass a
         * ring that goes round twice.
         */
        boolean isRing() {
            for (int i = 0; i < size; i++) {
                int j = wrap(i + 1);
                for (int k = 0; k < size; k++) {
                    if (k != i && k != j && sideAt(i, j, x[k], y[k]) <= 0) {
                        return false;
                    }
                }
            }
            return size >= 3;
        }

        boolean isInBounds() {
            for (int i = 0; i < size; i++) {
                if (!isPlace(x[i], y[i])) {
                    return false;
                }
            }
            return true;
        }

        boolean holds(int placeX, int placeY) {
            for (int i = 0; i < size; i++) {
                if (sideAt(i, wrap(i + 1), placeX, placeY) < 0) {
                    return false;
                }
            }
            return true;
        }

        boolean holdsAll(Ring other) {
            for (int i = 0; i < other.size; i++) {
                if (!holds(other.x[i], other.y[i])) {
                    return false;
                }
            }
            return true;
        }

        /** Rings without inward corners have no inside in common just if a side of one parts them. */
        boolean liesOver(Ring other) {
            return !hasSidePartingFrom(other) && !other.hasSidePartingFrom(this);
        }

        private boolean hasSidePartingFrom(Ring other) {
            for (int i = 0; i < size; i++) {
                if (isNoneLeftOfSide(i, other)) {
                    return true;
                }
            }
            return false;
        }

        private boolean isNoneLeftOfSide(int i, Ring other) {
            int j = wrap(i + 1);
            for (int k = 0; k < other.size; k++) {
                if (sideAt(i, j, other.x[k], other.y[k]) > 0) {
                    return false;
                }
            }
            return true;
        }

        /** Four corners with sides that face each other alike: one such pair makes the other one so, too. */
        boolean isSlab() {
            return size == 4 && x[1] - x[0] == x[2] - x[3] && y[1] - y[0] == y[2] - y[3];
        }

        boolean goesAlongOrUp(int i) {
            int j = wrap(i + 1);
            return x[i] == x[j] || y[i] == y[j];
        }
    }

    /** A line, and what it makes of a ring. */
    private static final class Line {
        int meetX;
        int meetY;
        private int ax;
        private int ay;
        private int dx;
        private int dy;
        private int lefts;
        private int rights;

        void set(int throughX, int throughY, int stepX, int stepY) {
            ax = throughX;
            ay = throughY;
            dx = stepX;
            dy = stepY;
        }

        private long side(int placeX, int placeY) {
            return (long) dx * (placeY - ay) - (long) dy * (placeX - ax);
        }

        /** Counts a ring's corners to the left and to the right, for the two questions below. */
        void weigh(Ring ring) {
            lefts = 0;
            rights = 0;
            for (int i = 0; i < ring.size; i++) {
                long side = side(ring.x[i], ring.y[i]);
                lefts += side > 0 ? 1 : 0;
                rights += side < 0 ? 1 : 0;
            }
        }

        boolean crosses() {
            return lefts > 0 && rights > 0;
        }

        /** Each part has two corners on the line, old ones or new ones. */
        boolean overfills() {
            return Math.max(lefts, rights) + 2 > MOST_CORNERS;
        }

        /** Parts a ring into left and right; false: it is parted at a place that is not whole. */
        boolean divide(Ring ring, Ring left, Ring right) {
            left.size = 0;
            right.size = 0;
            for (int i = 0; i < ring.size; i++) {
                int j = ring.wrap(i + 1);
                long side = side(ring.x[i], ring.y[i]);
                if (side >= 0) {
                    left.add(ring.x[i], ring.y[i]);
                }
                if (side <= 0) {
                    right.add(ring.x[i], ring.y[i]);
                }
                if (isBetween(ring.x[i], ring.y[i], ring.x[j], ring.y[j])) {
                    if (!meet(ring.x[i], ring.y[i], ring.x[j], ring.y[j])) {
                        return false;
                    }
                    left.add(meetX, meetY);
                    right.add(meetX, meetY);
                }
            }
            return true;
        }

        /** Whether two places lie on different sides of the line, none of them on it. */
        boolean isBetween(int px, int py, int qx, int qy) {
            long p = side(px, py);
            long q = side(qx, qy);
            return (p > 0 && q < 0) || (p < 0 && q > 0);
        }

        /** Finds where the line meets the way between two places; false: nowhere, or not at a whole place. */
        boolean meet(int px, int py, int qx, int qy) {
            long p = side(px, py);
            long whole = p - side(qx, qy);
            if (whole == 0) {
                return false;
            }
            long alongX = (qx - px) * p;
            long alongY = (qy - py) * p;
            if (alongX % whole != 0 || alongY % whole != 0) {
                return false;
            }
            meetX = (int) (px + alongX / whole);
            meetY = (int) (py + alongY / whole);
            return true;
        }
    }

    /** The ring of all that lies in two rings. */
    private static final class Common {
        final Ring ring = new Ring(WORK_ROOM);
        // By x, then by y, none of them twice.
        private final Ring sorted = new Ring(WORK_ROOM);
        private final Line side = new Line();

        /** Finds the ring of two that lie over one another; false: a corner of it is not whole. */
        boolean trace(Ring p, Ring q) {
            sorted.size = 0;
            sortInHeld(p, q);
            sortInHeld(q, p);
            if (!sortInCrossings(p, q)) {
                return false;
            }
            goRound();
            return true;
        }

        private void sortInHeld(Ring from, Ring holder) {
            for (int i = 0; i < from.size; i++) {
                if (holder.holds(from.x[i], from.y[i])) {
                    sortIn(from.x[i], from.y[i]);
                }
            }
        }

        /** Where sides cross inside of both there is always a corner, so that it has to be whole. */
        private boolean sortInCrossings(Ring p, Ring q) {
            for (int i = 0; i < p.size; i++) {
                int j = p.wrap(i + 1);
                side.set(p.x[i], p.y[i], p.x[j] - p.x[i], p.y[j] - p.y[i]);
                for (int k = 0; k < q.size; k++) {
                    int l = q.wrap(k + 1);
                    if (side.isBetween(q.x[k], q.y[k], q.x[l], q.y[l]) && isParted(p, i, j, q, k, l)) {
                        if (!side.meet(q.x[k], q.y[k], q.x[l], q.y[l])) {
                            return false;
                        }
                        sortIn(side.meetX, side.meetY);
                    }
                }
            }
            return true;
        }

        /** Whether corners i and j of p lie on different sides of the line from k to l of q. */
        private static boolean isParted(Ring p, int i, int j, Ring q, int k, int l) {
            long first = q.sideAt(k, l, p.x[i], p.y[i]);
            long second = q.sideAt(k, l, p.x[j], p.y[j]);
            return (first > 0 && second < 0) || (first < 0 && second > 0);
        }

        private void sortIn(int x, int y) {
            int spot = 0;
            while (spot < sorted.size && (sorted.x[spot] < x || (sorted.x[spot] == x && sorted.y[spot] < y))) {
                spot++;
            }
            if (spot < sorted.size && sorted.x[spot] == x && sorted.y[spot] == y) {
                return;
            }
            sorted.add(x, y);
            for (int i = sorted.size - 1; i > spot; i--) {
                sorted.x[i] = sorted.x[i - 1];
                sorted.y[i] = sorted.y[i - 1];
            }
            if (spot < sorted.size) {
                sorted.x[spot] = x;
                sorted.y[spot] = y;
            }
        }

        /** The ring round the sorted places: below them to the last one, and above them to the first. */
        private void goRound() {
            ring.size = 0;
            for (int i = 0; i < sorted.size; i++) {
                goTo(0, sorted.x[i], sorted.y[i]);
            }
            int turning = ring.size - 1;
            for (int i = sorted.size - 2; i >= 0; i--) {
                goTo(turning, sorted.x[i], sorted.y[i]);
            }
            // The first one was come to again.
            ring.size = Math.max(ring.size - 1, 0);
        }

        /** Goes on to a place, leaving out those behind corner first that are not left turns then. */
        private void goTo(int first, int x, int y) {
            for (int last = ring.size - 1; last > first && last > 0; last--) {
                if (ring.sideAt(last - 1, last, x, y) > 0) {
                    break;
                }
                ring.size = last;
            }
            ring.add(x, y);
        }
    }

    private static final class Piece {
        final Ring origin = new Ring(MOST_CORNERS);
        int turn = 1;
        int a;
        int b;
        boolean spare;

        void take(Piece from) {
            origin.take(from.origin);
            setMove(from.turn, from.a, from.b);
            spare = from.spare;
        }

        void setMove(int newTurn, int newA, int newB) {
            turn = newTurn;
            a = newA;
            b = newB;
        }

        boolean hasMove(int otherTurn, int otherA, int otherB) {
            return turn == otherTurn && a == otherA && b == otherB;
        }

        /** What is made anew is never spare. */
        void setOrigin(Ring ring) {
            origin.takeMoved(ring, 1, 0, 0);
            spare = false;
        }

        void setPlace(Ring ring) {
            origin.takeMoved(ring, turn, -turn * a, -turn * b);
            spare = false;
        }

        void placeInto(Ring ring) {
            ring.takeMoved(origin, turn, a, b);
        }

        boolean isTriangle() {
            return origin.size == 3;
        }

        /** A place has the sides of its origin, or those turned by half a turn: it is of the same kinds. */
        boolean isOfKind(int kind) {
            switch (kind) {
                case 0:
                    return true;
                case 1:
                    return isTriangle();
                case 2:
                    return origin.isSlab();
                case 3:
                    return origin.isSlab() && origin.goesAlongOrUp(0) && origin.goesAlongOrUp(1);
                default:
                    return isTriangle() && spare;
            }
        }
    }

    /** All pieces at one time. */
    private static final class Pieces {
        final Piece[] row = new Piece[MOST_PIECES];
        int size;

        Pieces() {
            for (int p = 0; p < MOST_PIECES; p++) {
                row[p] = new Piece();
            }
        }

        void take(Pieces from) {
            size = from.size;
            for (int p = 0; p < size; p++) {
                row[p].take(from.row[p]);
            }
        }

        void add(Piece like) {
            if (size < MOST_PIECES) {
                row[size].take(like);
                size++;
            }
        }

        void remove(int p) {
            for (int i = p; i < size - 1; i++) {
                row[i].take(row[i + 1]);
            }
            size--;
        }

        long twiceArea() {
            long area = 0;
            for (int p = 0; p < size; p++) {
                area += row[p].spare ? 0 : row[p].origin.twiceArea();
            }
            return area;
        }
    }

    /** The pieces before and behind each change that is kept, and a draft that may become the next ones. */
    private static final class History {
        private final Pieces[] states = new Pieces[KEPT_CHANGES + 1];
        private Pieces draft = new Pieces();
        private int now;
        private int last;

        History() {
            for (int i = 0; i < states.length; i++) {
                states[i] = new Pieces();
            }
        }

        Pieces now() {
            return states[now];
        }

        int kept() {
            return now;
        }

        int undone() {
            return last - now;
        }

        Pieces draft() {
            draft.take(states[now]);
            return draft;
        }

        Pieces emptyDraft() {
            draft.size = 0;
            return draft;
        }

        /** Makes the draft the pieces; the row that it pushes out is the next draft's. */
        void keepDraft() {
            if (now == KEPT_CHANGES) {
                Pieces oldest = states[0];
                for (int i = 0; i < KEPT_CHANGES; i++) {
                    states[i] = states[i + 1];
                }
                states[KEPT_CHANGES] = oldest;
            } else {
                now++;
            }
            Pieces pushedOut = states[now];
            states[now] = draft;
            draft = pushedOut;
            last = now;
        }

        boolean stepBack() {
            if (now == 0) {
                return false;
            }
            now--;
            return true;
        }

        boolean stepOn() {
            if (now >= last) {
                return false;
            }
            now++;
            return true;
        }
    }

    /** Sums of sides by their directions, in order by s, then by t. */
    private static final class Tally {
        final int[] s = new int[MOST_PIECES * MOST_CORNERS];
        final int[] t = new int[MOST_PIECES * MOST_CORNERS];
        final long[] total = new long[MOST_PIECES * MOST_CORNERS];
        int size;

        void addSides(Ring ring) {
            for (int i = 0; i < ring.size; i++) {
                int j = ring.wrap(i + 1);
                addSide(ring.x[j] - ring.x[i], ring.y[j] - ring.y[i]);
            }
        }

        private void addSide(int dx, int dy) {
            int steps = greatestDivisor(Math.abs(dx), Math.abs(dy));
            if (steps == 0) {
                return;
            }
            if (dx > 0 || (dx == 0 && dy > 0)) {
                addSteps(dx / steps, dy / steps, steps);
            } else {
                addSteps(-dx / steps, -dy / steps, -steps);
            }
        }

        private static int greatestDivisor(int one, int other) {
            int a = one;
            int b = other;
            // Numbers of 32 bits come to 0 in less than 50 steps.
            for (int step = 0; step < 64 && b != 0; step++) {
                int rest = a % b;
                a = b;
                b = rest;
            }
            return a;
        }

        private void addSteps(int dirS, int dirT, int steps) {
            int spot = firstNotBelow(dirS, dirT);
            if (spot < size && s[spot] == dirS && t[spot] == dirT) {
                total[spot] += steps;
            } else if (size < s.length) {
                System.arraycopy(s, spot, s, spot + 1, size - spot);
                System.arraycopy(t, spot, t, spot + 1, size - spot);
                System.arraycopy(total, spot, total, spot + 1, size - spot);
                s[spot] = dirS;
                t[spot] = dirT;
                total[spot] = steps;
                size++;
            }
        }

        private int firstNotBelow(int dirS, int dirT) {
            int low = 0;
            int high = size;
            // Each step halves what is between, of 640 at most.
            for (int step = 0; step < 32 && low < high; step++) {
                int middle = (low + high) / 2;
                if (s[middle] < dirS || (s[middle] == dirS && t[middle] < dirT)) {
                    low = middle + 1;
                } else {
                    high = middle;
                }
            }
            return low;
        }

        void leaveOutZeros() {
            int left = 0;
            for (int i = 0; i < size; i++) {
                if (total[i] != 0) {
                    s[left] = s[i];
                    t[left] = t[i];
                    total[left] = total[i];
                    left++;
                }
            }
            size = left;
        }
    }
}
