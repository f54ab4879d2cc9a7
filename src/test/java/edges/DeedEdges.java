/** Promises 9 to 16: deeds. */
final class DeedEdges extends Edge {
    private static final int[] NO_PERSON = farAnd(-1, 3, 4, 5, 6, 7);
    private static final int[] NO_ROOM = farAnd(-1, 3, 4, 7, 8);

    private DeedEdges() {
    }

    static void run() {
        like();
        likeUnknown();
        likeOutside();
        strike();
        strikeUnknown();
        strikeNot();
        lot();
        lotUnknown();
        lotOutside();
        refuse();
        refuseUnknown();
        refuseNot();
        moved();
        movedNot();
        leave();
        leaveUnknown();
        leaveNot();
        drift();
        driftOutside();
        driftNot();
        undo();
        undoOutside();
        undoNot();
    }

    private static void like() {
        of("P9", "LIKE (k 0 .. 7): how many he LIKES.");
        Run x = new Run("r8;t0;");
        for (int r = 0; r < 8; r++) {
            due(x.like(0, r, 7 - r), r + 1);
        }
        due(x.like(0, 0, 0), 8);
        due(x.like(0, 7, 7), 8);
        for (int k = 0; k <= 7; k++) {
            x = new Run("r8;n0,1,2,3,4,5,6;");
            due(x.like(0, 7, k), 8);
            due(x.likes(0, k), 7);
            x = new Run("r8;t0;");
            due(x.like(0, 7, k), 1);
            due(x.likes(0, 0), 7);
        }
    }

    private static void likeUnknown() {
        of("P9", "UNKNOWN,");
        refusedEach(Edge::busy, UNKNOWN, NO_PERSON, (x, p) -> x.like(p, 0, 0));
        refusedEach(Edge::busy, UNKNOWN, NO_ROOM, (x, r) -> x.like(0, r, 0));
        refusedEach(Edge::busy, UNKNOWN, new int[] {-1, 3}, (x, p) -> x.like(p, 0, 8));
        refusedEach(Edge::busy, UNKNOWN, new int[] {-1, 3}, (x, r) -> x.like(0, r, -1));
        refusedEach(() -> new Run("r8;"), UNKNOWN, new int[] {0}, (x, p) -> x.like(p, 0, 0));
    }

    private static void likeOutside() {
        of("P9", "OUTSIDE.");
        refusedEach(Edge::busy, OUTSIDE, farAnd(-1, 8, 9), (x, k) -> x.like(2, 1, k));
        // It is struck out by nothing that is refused.
        refusedEach(Edge::busy, OUTSIDE, new int[] {-1, 8}, (x, k) -> x.like(0, 1, k));
    }

    private static void strike() {
        of("P10", "STRIKE: how many he LIKES.");
        Run x = new Run("r8;n0,1,2,3,4,5,6,7;");
        for (int r = 7; r >= 0; r--) {
            due(x.strike(0, r), r);
        }
        x = new Run("r8;t0,0;");
        due(x.strike(0, 0), 0);
        due(x.person(0, 0), 0);
    }

    private static void strikeUnknown() {
        of("P10", "UNKNOWN,");
        refusedEach(Edge::busy, UNKNOWN, NO_PERSON, (x, p) -> x.strike(p, 0));
        refusedEach(Edge::busy, UNKNOWN, NO_ROOM, (x, r) -> x.strike(0, r));
        refusedEach(() -> new Run("r8;"), UNKNOWN, new int[] {0}, (x, p) -> x.strike(p, 0));
    }

    private static void strikeNot() {
        of("P10", "NOT: he LIKES it not.");
        refused(Edge::busy, NOT, x -> x.strike(2, 1));
        refused(() -> new Run("r8;t0,1;n2;"), NOT, x -> x.strike(0, 0));
        refused(() -> new Run("r8;t0,1;n2;"), NOT, x -> x.strike(0, 2));
        refused(() -> new Run("r8;t0,1;n2;"), NOT, x -> x.strike(1, 7));
        Run x = new Run("r8;n0,1;");
        due(x.strike(0, 1), 1);
        due(x.strike(0, 1), NOT);
        due(x.strike(0, 0), 0);
        due(x.strike(0, 0), NOT);
        due(x.told(11), 2);
    }

    private static void lot() {
        of("P11", "LOT (a place, 0 to PERSONS less 1): what it was.");
        for (int n = 1; n <= 6; n++) {
            Run x = new Run("r1;" + times("n0;", n));
            due(x.lot(n - 1, 0), n - 1);
            due(x.lot(n - 1, n - 1), 0);
            due(x.lot(n - 1, n - 1), n - 1);
            due(x.lot(0, n - 1), 0);
            due(x.lot(0, 0), n - 1);
            due(x.lot(0, n), OUTSIDE);
            due(x.lot(0, -1), OUTSIDE);
            due(x.told(11), 5);
        }
    }

    private static void lotUnknown() {
        of("P11", "UNKNOWN,");
        refusedEach(Edge::busy, UNKNOWN, NO_PERSON, (x, p) -> x.lot(p, 0));
        refusedEach(Edge::busy, UNKNOWN, new int[] {-1, 3}, (x, p) -> x.lot(p, 3));
        refusedEach(() -> new Run("r8;"), UNKNOWN, new int[] {-1, 0}, (x, p) -> x.lot(p, 0));
        refusedEach(Run::new, UNKNOWN, new int[] {-1, 0}, (x, p) -> x.lot(p, 0));
    }

    private static void lotOutside() {
        of("P11", "OUTSIDE.");
        refusedEach(Edge::busy, OUTSIDE, farAnd(-1, 3, 4, 5, 6, 7), (x, place) -> x.lot(0, place));
        refusedEach(Edge::busy, OUTSIDE, new int[] {-1, 3}, (x, place) -> x.lot(2, place));
    }

    private static void refuse() {
        of("P12", "REFUSED: what he GETS then (NONE).");
        Run x = new Run("r8;n0,1,2,3,4,5,6,7;");
        for (int r = 1; r < 8; r++) {
            due(x.refuse(0), r);
        }
        due(x.refuse(0), NONE);
        due(x.person(0, 1), 0);
        // He who sits comes down to where he sits.
        x = new Run("r2;t0,1;");
        due(x.refuse(0), 0);
        due(x.person(0, 3), 0);
    }

    private static void refuseUnknown() {
        of("P12", "UNKNOWN,");
        refusedEach(Edge::busy, UNKNOWN, NO_PERSON, Run::refuse);
        refusedEach(() -> new Run("r8;"), UNKNOWN, new int[] {-1, 0}, Run::refuse);
        refusedEach(Run::new, UNKNOWN, new int[] {-1, 0}, Run::refuse);
    }

    private static void refuseNot() {
        of("P12", "NOT: he gets none, or where he sits.");
        refused(() -> new Run("r2;n0;n0;"), NOT, x -> x.refuse(1));
        refused(() -> new Run("r2;t0;n1;"), NOT, x -> x.refuse(0));
        refused(() -> new Run("r2;t0,0,1;n1;"), NOT, x -> x.refuse(0));
        refused(() -> new Run("r2;t0,1;t1;"), NOT, x -> x.refuse(0));
        Run x = new Run("r2;t0;n0;");
        x.leave(0);
        due(x.refuse(0), NOT);
        due(x.refuse(1), NONE);
        due(x.refuse(1), NOT);
        due(x.told(11), 2);
    }

    private static void moved() {
        of("P13", "MOVED: how many sit elsewhere than ahead of it, or nowhere, or somewhere now.");
        // Elsewhere: 0 and 1; somewhere now: 3; as ahead of it: 2, and 4, who sat nowhere and does so now.
        Run x = new Run("r4;t0,1;t1,0;t2;n3;n3;");
        due(x.moved(), 3);
        same("seats", asked(x, 0), "1 0 2 3 -");
        due(x.moved(), 0);
        due(new Run("r6;t0,1;t1,2;t2,3;t3,4;t4,5;t5,0;").moved(), 6);
        due(new Run("r6;n0;n1;n2;n3;n4;n5;").moved(), 6);
        due(new Run("r6;t0;t1;t2;t3;t4;t5;").moved(), 0);
        due(new Run("r1;n0;n0;n0;n0;n0;n0;").moved(), 1);
        x = new Run("r1;t0;");
        x.leave(0);
        due(x.moved(), 0);
        due(x.told(11), 2);
    }

    private static void movedNot() {
        of("P13", "NOT: no PERSONS.");
        refused(Run::new, NOT, x -> x.moved());
        refused(() -> new Run("r1;"), NOT, x -> x.moved());
        refused(() -> new Run("r8;"), NOT, x -> x.moved());
        refused(TermEdges::noHostel, NOT, x -> x.moved());
        due(new Run("r1;n0;").moved(), 1);
    }

    private static void leave() {
        of("P14", "LEAVES: the ROOM.");
        Run x = new Run("r8;t0;t7;");
        due(x.leave(0), 0);
        due(x.leave(1), 7);
        due(x.told(11), 2);
        due(x.told(6), 255);
    }

    private static void leaveUnknown() {
        of("P14", "UNKNOWN,");
        refusedEach(Edge::busy, UNKNOWN, NO_PERSON, Run::leave);
        refusedEach(() -> new Run("r8;"), UNKNOWN, new int[] {-1, 0}, Run::leave);
        refusedEach(Run::new, UNKNOWN, new int[] {-1, 0}, Run::leave);
    }

    private static void leaveNot() {
        of("P14", "NOT: he sits nowhere.");
        refused(Edge::busy, NOT, x -> x.leave(1));
        refused(Edge::busy, NOT, x -> x.leave(2));
        Run x = new Run("r1;t0;");
        due(x.leave(0), 0);
        due(x.leave(0), NOT);
        due(x.undo(1), 0);
        due(x.leave(0), 0);
    }

    private static void drift() {
        of("P15", "n times BY DRAWS (1 .. 20): how many ROOMS nobody sits in.");
        Run once = new Run("r8;t0,1;t1,0;n2;");
        Run often = new Run("r8;t0,1;t1,0;n2;");
        for (int i = 1; i <= 20; i++) {
            int empty = once.drift(1);
            due(once.told(11), i);
            due(empty, Integer.bitCount(once.told(6)));
        }
        due(often.drift(20), Integer.bitCount(once.told(6)));
        due(often.told(11), 20);
        same("twenty times once is once twenty times", section2(often), section2(once));
        due(often.seed(0), once.seed(0));
        due(new Run("r1;").drift(1), 1);
        due(new Run("r8;").drift(20), 8);
        due(new Run("r1;t0;").drift(20), 0);
    }

    private static void driftOutside() {
        of("P15", "OUTSIDE,");
        refusedEach(Edge::busy, OUTSIDE, farAnd(-1, 0, 21, 22), Run::drift);
        refusedEach(() -> new Run("r8;"), OUTSIDE, new int[] {0, 21}, Run::drift);
        refusedEach(Run::new, OUTSIDE, farAnd(-1, 0, 21), Run::drift);
    }

    private static void driftNot() {
        of("P15", "NOT: no HOSTEL.");
        refusedEach(Run::new, NOT, new int[] {1, 2, 19, 20}, Run::drift);
        refusedEach(TermEdges::noHostel, NOT, new int[] {1, 20}, Run::drift);
        // A HOSTEL without PERSONS is one.
        due(new Run("r1;").drift(20), 1);
        Run x = new Run("r1;n0;");
        x.hostel();
        due(x.drift(1), NOT);
    }

    private static void undo() {
        of("P16", "The n latest (1 .. 20) are undone: how many more can be.");
        for (int n = 1; n <= 20; n++) {
            Run x = new Run("r8;n0;");
            for (int i = 0; i < 20; i++) {
                x.like(0, i % 8, 0);
            }
            Run y = new Run("r8;n0;");
            for (int i = 0; i < 20 - n; i++) {
                y.like(0, i % 8, 0);
            }
            due(x.undo(n), 20 - n);
            same(n + " undone", section2(x), section2(y));
            due(x.told(11), 20 - n);
            // Deeds behind it can be undone in their turn, and those ahead of it as well.
            x.lot(0, 0);
            due(x.undo(1), 20 - n);
        }
    }

    private static void undoOutside() {
        of("P16", "OUTSIDE,");
        refusedEach(Edge::busy, OUTSIDE, farAnd(-1, 0, 21, 22), Run::undo);
        refusedEach(Run::new, OUTSIDE, farAnd(-1, 0, 21), Run::undo);
        refusedEach(DeedEdges::twenty, OUTSIDE, new int[] {-1, 0, 21}, Run::undo);
    }

    private static Run twenty() {
        Run x = new Run("r2;n0;");
        for (int i = 0; i < 22; i++) {
            x.like(0, i % 2, 0);
        }
        return x;
    }

    private static void undoNot() {
        of("P16", "NOT: not so many.");
        refusedEach(Run::new, NOT, new int[] {1, 2, 20}, Run::undo);
        refusedEach(Edge::busy, NOT, new int[] {4, 5, 20}, Run::undo);
        due(busy().undo(3), 0);
        Run x = twenty();
        due(x.undo(20), 0);
        due(x.undo(1), NOT);
        x.lot(0, 0);
        due(x.undo(2), NOT);
        due(x.undo(1), 0);
    }
}
