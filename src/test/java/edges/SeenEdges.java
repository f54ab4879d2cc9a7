/** Promises 17 to 28: what is asked, what is seen, images. */
final class SeenEdges extends Edge {
    private static final int[] NO_PERSON = farAnd(-1, 3, 4, 5, 6, 7);
    private static final int[] NO_ROOM = farAnd(-1, 3, 4, 7, 8);
    private static final int[] NO_ROOM_NOR_NONE = farAnd(3, 4, 7, 8);

    private SeenEdges() {
    }

    static void run() {
        otherwise();
        otherwiseUnknown();
        odds();
        oddsUnknown();
        quiet();
        quietOutside();
        see();
        seeUnknown();
        seeFull();
        couldBe();
        ask();
        write();
        writeUnknown();
        writeFull();
        judge();
        tear();
        seed();
        seedOutside();
        keep();
        keepUnknown();
        goBack();
        goBackUnknown();
        goBackNot();
    }

    private static void otherwise() {
        of("P17", "ELSE; NONE.");
        Run x = new Run("r8;n7;n0;t3;");
        due(x.otherwise(0, 0), 0);
        due(x.otherwise(0, 7), 7);
        due(x.otherwise(1, 7), NONE);
        due(x.otherwise(1, 3), NONE);
        due(x.otherwise(2, 7), 3);
        due(x.otherwise(2, 6), 6);
        due(new Run("r1;n0;").otherwise(0, 0), 0);
    }

    private static void otherwiseUnknown() {
        of("P17", "UNKNOWN.");
        refusedEach(Edge::busy, UNKNOWN, NO_PERSON, (x, p) -> x.otherwise(p, 0));
        refusedEach(Edge::busy, UNKNOWN, NO_ROOM, (x, r) -> x.otherwise(0, r));
        refusedEach(() -> new Run("r8;"), UNKNOWN, new int[] {0}, (x, p) -> x.otherwise(p, 0));
        refusedEach(Run::new, UNKNOWN, new int[] {0}, (x, p) -> x.otherwise(p, 0));
    }

    private static void odds() {
        of("P18", "ODDS (r NONE: none).");
        Run x = new Run("r8;n7;n7;n0;");
        due(x.odds(0, 7), 3);
        due(x.odds(0, NONE), 3);
        due(x.odds(2, 0), 6);
        due(x.odds(2, NONE), 0);
        due(x.odds(2, 7), 0);
        due(new Run("r1;n0;").odds(0, 0), 1);
        due(new Run("r1;n0;").odds(0, NONE), 0);
        x = new Run("r1;n0;n0;n0;n0;n0;n0;");
        due(x.odds(5, 0), 120);
        due(x.odds(5, NONE), 600);
        x.strike(5, 0);
        due(x.odds(5, NONE), 720);
        due(x.odds(0, 0), 144);
    }

    private static void oddsUnknown() {
        of("P18", "UNKNOWN.");
        refusedEach(Edge::busy, UNKNOWN, NO_PERSON, (x, p) -> x.odds(p, 0));
        refusedEach(Edge::busy, UNKNOWN, NO_PERSON, (x, p) -> x.odds(p, NONE));
        refusedEach(Edge::busy, UNKNOWN, NO_ROOM_NOR_NONE, (x, r) -> x.odds(0, r));
        refusedEach(() -> new Run("r8;"), UNKNOWN, new int[] {-1, 0}, (x, r) -> x.odds(0, r));
        refusedEach(Run::new, UNKNOWN, new int[] {-1, 0}, (x, r) -> x.odds(0, r));
    }

    private static void quiet() {
        of("P19", "QUIET.");
        Run x = new Run();
        due(x.quiet(0, 50), 1000000000);
        due(x.quiet(1, 50), 500000000);
        due(x.quiet(60, 50), 0);
        due(x.quiet(29, 50), 1);
        due(x.quiet(30, 50), 0);
        due(x.quiet(60, 100), 1000000000);
        due(busy().quiet(2, 90), 810000000);
    }

    private static void quietOutside() {
        of("P19", "OUTSIDE.");
        int[] nights = {LEAST, LEAST + 1, -2, -1, 61, 62, 256, GREATEST - 1, GREATEST};
        int[] chances = {LEAST, LEAST + 1, -2, -1, 101, 102, 256, GREATEST - 1, GREATEST};
        refusedEach(Edge::busy, OUTSIDE, nights, (x, n) -> x.quiet(n, 50));
        refusedEach(Edge::busy, OUTSIDE, nights, (x, n) -> x.quiet(n, 0));
        refusedEach(Edge::busy, OUTSIDE, nights, (x, n) -> x.quiet(n, 100));
        refusedEach(Edge::busy, OUTSIDE, chances, (x, q) -> x.quiet(0, q));
        refusedEach(Edge::busy, OUTSIDE, chances, (x, q) -> x.quiet(60, q));
        refusedEach(Run::new, OUTSIDE, nights, (x, n) -> x.quiet(n, n));
    }

    private static void see() {
        of("P20", "SEEN (a ROOM, or NONE): how much.");
        Run x = new Run("r8;n0;n7;n7;");
        due(x.see(NONE, false), 1);
        due(x.couldBe(), 3);
        due(x.see(0, false), 2);
        due(x.couldBe(), 2);
        due(x.see(7, true), 3);
        due(x.couldBe(), 2);
        due(x.see(7, true), 4);
        due(x.see(NONE, true), 5);
        due(x.couldBe(), 0);
        due(x.see(7, false), 6);
        // Without a HOSTEL there is no ROOM, but NONE can be SEEN yet.
        x = new Run();
        due(x.see(NONE, true), 1);
        due(x.see(NONE, false), 2);
        due(x.told(9), 2);
    }

    private static void seeUnknown() {
        of("P20", "UNKNOWN,");
        refusedEach(Edge::busy, UNKNOWN, NO_ROOM_NOR_NONE, (x, r) -> x.see(r, true));
        refusedEach(Edge::busy, UNKNOWN, NO_ROOM_NOR_NONE, (x, r) -> x.see(r, false));
        refusedEach(() -> new Run("r8;"), UNKNOWN, new int[] {-2, 8}, (x, r) -> x.see(r, true));
        refusedEach(Run::new, UNKNOWN, new int[] {-2, 0}, (x, r) -> x.see(r, true));
        refusedEach(TermEdges::fullBooks, UNKNOWN, new int[] {-2, 2}, (x, r) -> x.see(r, true));
    }

    private static void seeFull() {
        of("P20", "FULL (6).");
        refusedEach(TermEdges::fullBooks, FULL, new int[] {-1, 0, 1}, (x, r) -> x.see(r, true));
        refusedEach(TermEdges::fullBooks, FULL, new int[] {-1, 0, 1}, (x, r) -> x.see(r, false));
        Run x = new Run("r1;n0;");
        for (int i = 1; i <= 6; i++) {
            due(x.see(0, true), i);
        }
        due(x.see(0, false), FULL);
        due(x.couldBe(), 1);
        x.tear();
        due(x.see(0, false), 1);
    }

    private static void couldBe() {
        of("P21", "COULD BE.");
        due(new Run().couldBe(), 0);
        due(new Run("r8;").couldBe(), 0);
        due(new Run("r1;n0;").couldBe(), 1);
        Run x = new Run("r1;n0;n0;n0;n0;n0;n0;");
        due(x.couldBe(), 63);
        x.see(0, false);
        due(x.couldBe(), 62);
        x.see(NONE, true);
        due(x.couldBe(), 62);
        x.see(0, true);
        due(x.couldBe(), 0);
        // NONE can be SEEN of nobody, too.
        x = new Run("r8;");
        x.see(NONE, true);
        due(x.couldBe(), 0);
    }

    private static void ask() {
        of("P22", "ASK; NONE.");
        due(new Run().ask(), NONE);
        due(new Run("r8;").ask(), NONE);
        due(new Run("r8;n7;").ask(), NONE);
        due(new Run("r8;n7;n6;").ask(), 6);
        due(new Run("r8;n7;n7;").ask(), 7);
        due(new Run("r8;n0;n7;").ask(), 0);
        Run x = new Run("r1;t0;n0;n0;");
        x.see(0, false);
        due(x.ask(), NONE);
        x.tear();
        due(x.ask(), 0);
    }

    private static void write() {
        of("P23", "An entry behind THE BOOK (a ROOM, or NONE): how many.");
        Run x = new Run("r8;n7;n7;n0;");
        due(x.write(0, 7), 1);
        due(x.write(2, 0), 2);
        due(x.write(1, NONE), 3);
        due(x.judge(), NONE);
        due(x.write(0, NONE), 4);
        due(x.write(0, 0), 5);
        due(x.judge(), 3);
        due(x.told(10), 5);
    }

    private static void writeUnknown() {
        of("P23", "UNKNOWN,");
        refusedEach(Edge::busy, UNKNOWN, NO_PERSON, (x, p) -> x.write(p, 0));
        refusedEach(Edge::busy, UNKNOWN, NO_PERSON, (x, p) -> x.write(p, NONE));
        refusedEach(Edge::busy, UNKNOWN, NO_ROOM_NOR_NONE, (x, r) -> x.write(0, r));
        refusedEach(() -> new Run("r8;"), UNKNOWN, new int[] {-1, 0}, (x, r) -> x.write(0, r));
        refusedEach(Run::new, UNKNOWN, new int[] {-1, 0}, (x, r) -> x.write(0, r));
        refusedEach(TermEdges::fullBooks, UNKNOWN, new int[] {-1, 2}, (x, p) -> x.write(p, 0));
        refusedEach(TermEdges::fullBooks, UNKNOWN, new int[] {-2, 2}, (x, r) -> x.write(0, r));
    }

    private static void writeFull() {
        of("P23", "FULL (20).");
        refusedEach(TermEdges::fullBooks, FULL, new int[] {-1, 0, 1}, (x, r) -> x.write(0, r));
        Run x = new Run("r1;n0;");
        for (int i = 1; i <= 20; i++) {
            due(x.write(0, 0), i);
        }
        due(x.write(0, NONE), FULL);
        due(x.judge(), NONE);
        x.tear();
        due(x.write(0, NONE), 1);
        due(x.judge(), 0);
    }

    private static void judge() {
        of("P24", "WRONG; NONE.");
        due(new Run().judge(), NONE);
        due(new Run("r1;n0;").judge(), NONE);
        due(TermEdges.fullBooks().judge(), 19);
        Run x = new Run("r2;t0,1;n0;");
        x.write(0, 1);
        due(x.judge(), NONE);
        x.write(1, NONE);
        due(x.judge(), 1);
        // Where he sits is not what he gets.
        x.tear();
        x.write(0, 0);
        due(x.judge(), 0);
        x.refuse(0);
        due(x.judge(), NONE);
    }

    private static void tear() {
        of("P25", "Nothing SEEN, no BOOK: how much both had.");
        due(new Run().tear(), 0);
        Run x = TermEdges.fullBooks();
        due(x.tear(), 26);
        due(x.told(9), 0);
        due(x.told(10), 0);
        due(x.couldBe(), 3);
        due(x.judge(), NONE);
        due(x.tear(), 0);
        x.see(0, true);
        due(x.tear(), 1);
        x.write(0, 0);
        due(x.tear(), 1);
        due(x.told(10), 0);
        // All else stays.
        x = busy();
        Run y = busy();
        due(x.tear(), 3);
        same("house", section2(x), section2(y));
        due(x.told(11), 3);
        due(x.told(2), 5);
        due(x.seed(0), 7);
        due(x.goBack(0), 1);
    }

    private static void seed() {
        of("P26", "THE SEED becomes v (0 .. 2147483647): what it was.");
        Run x = new Run();
        due(x.seed(0), 0);
        due(x.seed(2147483647), 0);
        due(x.seed(2147483646), 2147483647);
        due(x.seed(1), 2147483646);
        due(x.seed(0), 1);
        due(x.seed(65536), 0);
        due(x.seed(0), 65536);
        // The greatest one is gone on from.
        Run y = new Run("r2;t0,1;n1;");
        y.seed(2147483647);
        y.drift(1);
        due(y.seed(0) == 2147483647 ? 1 : 0, 0);
    }

    private static void seedOutside() {
        of("P26", "OUTSIDE.");
        int[] below = {LEAST, LEAST + 1, FULL, -65536, -2, -1};
        refusedEach(Edge::busy, OUTSIDE, below, Run::seed);
        refusedEach(Run::new, OUTSIDE, below, Run::seed);
    }

    private static void keep() {
        of("P27", "IMAGE i becomes what is so (nothing can be undone then): 1.");
        for (int i = 0; i <= 1; i++) {
            Run x = new Run("r3;t0,1;t1,0;n2;");
            x.seed(77);
            x.moved();
            String now = section2(x);
            due(x.told(11), 1);
            due(x.keep(i), 1);
            same("what is so stays", section2(x), now);
            due(x.told(11), 0);
            due(x.undo(1), NOT);
            due(x.goBack(1 - i), NOT);
            x.lot(2, 0);
            x.seed(78);
            due(x.goBack(i), 1);
            same("what was so", section2(x), now);
            due(x.seed(79), 77);
            // It becomes another.
            x.leave(2);
            String then = section2(x);
            due(x.keep(i), 1);
            x.moved();
            due(x.goBack(i), 1);
            same("what was so then", section2(x), then);
            due(x.seed(0), 79);
        }
        // Without a HOSTEL it is that there is none.
        Run x = new Run();
        due(x.keep(0), 1);
        due(x.keep(1), 1);
        due(x.goBack(1), 1);
        due(x.told(0), 0);
    }

    private static void keepUnknown() {
        of("P27", "UNKNOWN.");
        refusedEach(Edge::busy, UNKNOWN, farAnd(-1, 2, 3), Run::keep);
        refusedEach(Run::new, UNKNOWN, farAnd(-1, 2, 3), Run::keep);
    }

    private static void goBack() {
        of("P28", "What is so becomes IMAGE i (nothing can be undone then): 1.");
        for (int i = 0; i <= 1; i++) {
            Run x = new Run("r3;t0,1;t1,0;n2;");
            x.seed(77);
            String first = section2(x);
            x.keep(i);
            x.moved();
            x.strike(2, 2);
            x.lot(2, 0);
            x.leave(0);
            x.like(0, 2, 0);
            x.seed(78);
            due(x.told(11), 5);
            due(x.goBack(i), 1);
            same("image", section2(x), first);
            due(x.told(11), 0);
            due(x.undo(1), NOT);
            due(x.seed(0), 77);
            x.drift(20);
            due(x.goBack(i), 1);
            due(x.goBack(i), 1);
            same("image", section2(x), first);
            due(x.seed(0), 77);
        }
    }

    private static void goBackUnknown() {
        of("P28", "UNKNOWN,");
        refusedEach(Edge::busy, UNKNOWN, farAnd(-1, 2, 3), Run::goBack);
        refusedEach(Run::new, UNKNOWN, farAnd(-1, 2, 3), Run::goBack);
    }

    private static void goBackNot() {
        of("P28", "NOT: it was not kept.");
        refusedEach(Run::new, NOT, new int[] {0, 1}, Run::goBack);
        refused(Edge::busy, NOT, x -> x.goBack(1));
        refused(() -> {
            Run x = new Run("r2;n0;n1;");
            x.keep(1);
            x.lot(1, 0);
            return x;
        }, NOT, x -> x.goBack(0));
        // It was kept of another HOSTEL.
        Run x = new Run("r2;n0;n1;");
        x.keep(0);
        x.keep(1);
        x.tell("r2;n0;n1;").hostel();
        due(x.goBack(0), NOT);
        due(x.goBack(1), NOT);
        x.keep(1);
        due(x.goBack(0), NOT);
        due(x.goBack(1), 1);
    }
}
