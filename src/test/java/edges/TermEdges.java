/** The sentences ahead of section 1: numbers, SETS, REFUSALS and their order; and how often an object is called. */
final class TermEdges extends Edge {
    private TermEdges() {
    }

    static void run() {
        calls512();
        untold("Terms", "Words in capitals are told where they come first.");
        whole();
        fromZero();
        sets();
        none();
        orderOfRefusals();
        unknown();
        outside();
        not();
        full();
        farBelow();
        changesNothing();
        billion();
    }

    private static void calls512() {
        of("use", "An object is used for at most 512 calls after it has been made; what later calls answer is free.");
        Run x = new Run("r3;t0,1;t1,0;n2;");
        while (x.calls() < 400) {
            x.drift(20);
        }
        x.tell(times(" ", 90)).tell("r2;n1,0;n0;");
        due(x.hostel(), 2);
        x.like(1, 1, 0);
        x.keep(1);
        while (x.calls() < 510) {
            x.lot(x.calls() % 2, 0);
        }
        due(x.goBack(1), 1);
        due(x.odds(1, 1), 1);
        due(x.calls(), 512);
    }

    private static void whole() {
        of("Terms", "All numbers are whole; / cuts towards 0.");
        // 1000000000, 330000000, 108900000, 35937000, 11859210, 3913539.3, 1291467.87
        Run x = new Run();
        due(x.quiet(5, 33), 3913539);
        due(x.quiet(6, 33), 1291467);
    }

    private static void fromZero() {
        of("Terms", "What has a number has it from 0 on, as it comes.");
        Run x = new Run("r2;t1;n0;");
        due(x.person(0, 0), 1);
        due(x.person(1, 0), NONE);
        due(x.person(2, 0), UNKNOWN);
        due(x.room(0, 0), NONE);
        due(x.room(1, 0), 0);
        due(x.room(2, 0), UNKNOWN);
        due(x.person(0, 4), 0);
        due(x.person(0, 2), 0);
        due(x.likes(1, 0), 0);
        x.write(0, 0);
        due(x.judge(), 0);
        x.tell("x").hostel();
        due(x.fault(), 0);
        due(x.keep(0), 1);
    }

    private static void sets() {
        of("Terms", "A SET is a whole number, bit k for k.");
        Run x = new Run("r8;n0;n1;n2;n3;n4;n4;");
        due(x.told(6), 255);
        due(x.told(5), 128 + 64 + 32);
        due(x.told(4), 32);
        due(x.couldBe(), 63);
        due(x.person(0, 5), 1);
        due(x.person(5, 5), 32);
        x = new Run("r6;t5,4;t4,5;");
        due(x.told(7), 3);
        due(x.told(6), 15);
    }

    private static void none() {
        of("Terms", "NONE is -1.");
        due(RoomRings.NONE, -1);
        Run x = new Run("r1;t0;n0;");
        due(x.person(1, 0), -1);
        due(x.person(1, 3), -1);
        due(x.fault(), -1);
        due(x.odds(1, -1), 2);
        due(x.see(-1, true), 1);
        due(x.write(1, -1), 1);
    }

    private static void orderOfRefusals() {
        of("Terms", "REFUSALS, of several the first in this order:");
        refused(Edge::busy, UNKNOWN, x -> x.person(3, 8));
        refused(Edge::busy, UNKNOWN, x -> x.person(-1, -1));
        refused(Edge::busy, UNKNOWN, x -> x.room(3, 2));
        refused(Edge::busy, UNKNOWN, x -> x.room(-1, -1));
        refused(Edge::busy, UNKNOWN, x -> x.like(3, 0, 8));
        refused(Edge::busy, UNKNOWN, x -> x.like(0, 3, 8));
        refused(Edge::busy, UNKNOWN, x -> x.like(-1, -1, -1));
        refused(Edge::busy, UNKNOWN, x -> x.strike(3, 1));
        refused(Edge::busy, UNKNOWN, x -> x.strike(0, 3));
        refused(Edge::busy, UNKNOWN, x -> x.lot(3, 3));
        refused(Edge::busy, UNKNOWN, x -> x.lot(-1, -1));
        refused(Edge::busy, UNKNOWN, x -> x.goBack(2));
        // A new object: OUTSIDE comes ahead of NOT, and nobody is there to be asked for.
        refused(Run::new, OUTSIDE, x -> x.drift(0));
        refused(Run::new, OUTSIDE, x -> x.drift(21));
        refused(Run::new, OUTSIDE, x -> x.undo(0));
        refused(Run::new, OUTSIDE, x -> x.undo(21));
        refused(Run::new, UNKNOWN, x -> x.person(0, 8));
        refused(Run::new, UNKNOWN, x -> x.room(0, 2));
        refused(Run::new, UNKNOWN, x -> x.lot(0, 0));
        refused(Run::new, UNKNOWN, x -> x.like(0, 0, 8));
        refused(Run::new, UNKNOWN, x -> x.refuse(0));
        refused(Run::new, UNKNOWN, x -> x.leave(0));
        // What is full refuses first what is wrong anyway.
        refused(TermEdges::fullText, OUTSIDE, x -> x.feed(-1));
        refused(TermEdges::fullText, OUTSIDE, x -> x.feed(256));
        refused(TermEdges::fullBooks, UNKNOWN, x -> x.see(2, true));
        refused(TermEdges::fullBooks, UNKNOWN, x -> x.see(-2, true));
        refused(TermEdges::fullBooks, UNKNOWN, x -> x.write(2, 0));
        refused(TermEdges::fullBooks, UNKNOWN, x -> x.write(0, 2));
        refused(TermEdges::fullBooks, UNKNOWN, x -> x.write(0, -2));
    }

    static Run fullText() {
        return new Run("r2;n1;").tell("r2;n0;").tell(times(" ", 234));
    }

    static Run fullBooks() {
        Run x = new Run("r2;t0,1;n0;");
        for (int i = 0; i < 6; i++) {
            x.see(i == 5 ? 0 : NONE, false);
        }
        for (int i = 0; i < 20; i++) {
            x.write(0, i == 19 ? 0 : 1);
        }
        return x;
    }

    private static void unknown() {
        of("Terms", "UNKNOWN (a ROOM, PERSON, IMAGE that there is not; one twice, where two are asked),");
        Run x = new Run("r3;t0,1;n2;");
        due(x.room(2, 0), NONE);
        due(x.room(3, 0), UNKNOWN);
        due(x.person(1, 0), NONE);
        due(x.person(2, 0), UNKNOWN);
        due(x.keep(1), 1);
        due(x.keep(2), UNKNOWN);
        // One twice: no call asks for two of a kind; a PERSON and a ROOM of one number are two.
        due(x.like(1, 1, 0), 2);
        due(x.strike(1, 1), 1);
        due(x.write(1, 1), 1);
        due(x.otherwise(0, 0), 0);
    }

    private static void outside() {
        of("Terms", "OUTSIDE (another number out of its bounds),");
        Run x = new Run("r3;t0,1;n2;");
        due(x.feed(256), OUTSIDE);
        due(x.told(12), OUTSIDE);
        due(x.person(0, 8), OUTSIDE);
        due(x.room(0, 2), OUTSIDE);
        due(x.like(0, 0, 8), OUTSIDE);
        due(x.lot(0, 2), OUTSIDE);
        due(x.drift(21), OUTSIDE);
        due(x.undo(21), OUTSIDE);
        due(x.quiet(61, 0), OUTSIDE);
        due(x.seed(-1), OUTSIDE);
    }

    private static void not() {
        of("Terms", "NOT (not now, as told),");
        Run x = new Run("r3;t0,1;n2;");
        due(x.strike(0, 2), NOT);
        due(x.like(0, 2, 7), 2);
        due(x.strike(0, 2), 1);
        due(x.leave(1), NOT);
        due(x.moved(), 2);
        due(x.leave(1), 2);
        due(x.goBack(0), NOT);
        due(x.undo(5), NOT);
        due(x.undo(4), 0);
        x.keep(0);
        due(x.goBack(0), 1);
    }

    private static void full() {
        of("Terms", "FULL.");
        due(fullText().feed('r'), FULL);
        due(fullBooks().see(0, true), FULL);
        due(fullBooks().write(0, 0), FULL);
    }

    private static void farBelow() {
        of("Terms", "They are far below all that is counted: -1000000001 and on.");
        due(RoomRings.UNKNOWN, -1000000001);
        due(RoomRings.OUTSIDE, -1000000002);
        due(RoomRings.NOT, -1000000003);
        due(RoomRings.FULL, -1000000004);
        Run x = new Run();
        due(x.quiet(0, 100), 1000000000);
        due(x.quiet(1, 0), 0);
    }

    private static void changesNothing() {
        of("Terms", "What is refused changes nothing.");
        refused(Edge::busy, OUTSIDE, x -> x.feed(-1));
        refused(Edge::busy, OUTSIDE, x -> x.feed(256));
        refused(TermEdges::fullText, FULL, x -> x.feed('9'));
        refused(Edge::busy, OUTSIDE, x -> x.told(12));
        refused(Edge::busy, UNKNOWN, x -> x.person(3, 0));
        refused(Edge::busy, OUTSIDE, x -> x.person(0, 8));
        refused(Edge::busy, UNKNOWN, x -> x.likes(3, 0));
        refused(Edge::busy, UNKNOWN, x -> x.room(3, 0));
        refused(Edge::busy, OUTSIDE, x -> x.room(0, 2));
        refused(Edge::busy, UNKNOWN, x -> x.like(3, 0, 0));
        refused(Edge::busy, UNKNOWN, x -> x.like(0, 3, 0));
        refused(Edge::busy, OUTSIDE, x -> x.like(0, 0, 8));
        refused(Edge::busy, OUTSIDE, x -> x.like(0, 1, -1));
        refused(Edge::busy, UNKNOWN, x -> x.strike(3, 0));
        refused(Edge::busy, UNKNOWN, x -> x.strike(0, 3));
        refused(Edge::busy, NOT, x -> x.strike(2, 1));
        refused(Edge::busy, UNKNOWN, x -> x.lot(3, 0));
        refused(Edge::busy, OUTSIDE, x -> x.lot(0, 3));
        refused(Edge::busy, UNKNOWN, x -> x.refuse(3));
        refused(() -> new Run("r2;t0;n1,0;"), NOT, x -> x.refuse(0));
        refused(() -> new Run("r2;t0;n0;"), NOT, x -> x.refuse(1));
        refused(() -> new Run("r2;"), NOT, x -> x.moved());
        refused(Edge::busy, UNKNOWN, x -> x.leave(3));
        refused(Edge::busy, NOT, x -> x.leave(1));
        refused(Edge::busy, OUTSIDE, x -> x.drift(21));
        refused(TermEdges::noHostel, NOT, x -> x.drift(1));
        refused(Edge::busy, OUTSIDE, x -> x.undo(0));
        refused(Edge::busy, NOT, x -> x.undo(4));
        refused(Edge::busy, UNKNOWN, x -> x.otherwise(0, 3));
        refused(Edge::busy, UNKNOWN, x -> x.odds(0, 3));
        refused(Edge::busy, OUTSIDE, x -> x.quiet(61, 101));
        refused(Edge::busy, UNKNOWN, x -> x.see(3, true));
        refused(TermEdges::fullBooks, FULL, x -> x.see(1, true));
        refused(Edge::busy, UNKNOWN, x -> x.write(0, 3));
        refused(TermEdges::fullBooks, FULL, x -> x.write(1, 1));
        refused(Edge::busy, OUTSIDE, x -> x.seed(-1));
        refused(Edge::busy, UNKNOWN, x -> x.keep(2));
        refused(Edge::busy, UNKNOWN, x -> x.goBack(-1));
        refused(Edge::busy, NOT, x -> x.goBack(1));
    }

    static Run noHostel() {
        Run x = new Run();
        x.seed(7);
        x.see(NONE, true);
        x.keep(1);
        return x.tell("r2;n0");
    }

    private static void billion() {
        of("Terms", "BILLION is 1000000000.");
        due(new Run().quiet(0, 0), 1000000000);
    }
}
