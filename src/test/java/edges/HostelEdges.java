/** Promises 1 to 8: the hostel. */
final class HostelEdges extends Edge {
    private HostelEdges() {
    }

    static void run() {
        newObject();
        feed();
        feedOutside();
        feedFull();
        hostelEmptiesText();
        hostelForgets();
        hostelCounts();
        hostelFault();
        fault();
        toldN();
        toldPersons();
        toldLetters();
        toldRounds();
        toldEmptyHanded();
        toldNobodyGets();
        toldNobodySits();
        toldGroup();
        toldSets();
        toldSeen();
        toldBook();
        toldUndone();
        toldOutside();
        personSits();
        personLikes();
        personPlace();
        personGets();
        personRound();
        personRing();
        personByLot();
        personBetter();
        personUnknown();
        personOutside();
        likes();
        likesUnknown();
        roomSits();
        roomGets();
        roomUnknown();
        roomOutside();
    }

    private static void newObject() {
        of("P1", "No HOSTEL.");
        Run x = new Run();
        int[] told = {0, 0, 0, 0, 0, 0, 0, NONE, 0, 0, 0, 0};
        for (int what = 0; what < told.length; what++) {
            due(x.told(what), told[what]);
        }
        due(x.fault(), NONE);
        due(x.person(0, 0), UNKNOWN);
        due(x.likes(0, 0), UNKNOWN);
        due(x.room(0, 0), UNKNOWN);
        due(x.like(0, 0, 0), UNKNOWN);
        due(x.strike(0, 0), UNKNOWN);
        due(x.lot(0, 0), UNKNOWN);
        due(x.refuse(0), UNKNOWN);
        due(x.moved(), NOT);
        due(x.leave(0), UNKNOWN);
        due(x.drift(1), NOT);
        due(x.undo(1), NOT);
        due(x.otherwise(0, 0), UNKNOWN);
        due(x.odds(0, 0), UNKNOWN);
        due(x.odds(0, NONE), UNKNOWN);
        due(x.see(0, true), UNKNOWN);
        due(x.couldBe(), 0);
        due(x.ask(), NONE);
        due(x.write(0, 0), UNKNOWN);
        due(x.write(0, NONE), UNKNOWN);
        due(x.judge(), NONE);
        due(x.tear(), 0);
        due(x.goBack(0), NOT);
        due(x.goBack(1), NOT);
        due(x.seed(0), 0);
        due(x.hostel(), 0);
    }

    // ---- feed

    private static void feed() {
        of("P2", "A letter (0 .. 255) comes behind THE TEXT: how many it has.");
        Run x = new Run();
        due(x.feed(0), 1);
        due(x.feed(255), 2);
        due(x.feed(1), 3);
        due(x.feed(254), 4);
        due(x.told(2), 4);
        due(x.hostel(), -11);
        due(x.fault(), 0);
        due(x.feed('r'), 1);
        due(x.feed('2'), 2);
        due(x.feed(';'), 3);
        due(x.feed(255), 4);
        due(x.hostel(), -11);
        due(x.fault(), 3);
    }

    private static void feedOutside() {
        of("P2", "OUTSIDE,");
        int[] letters = {LEAST, LEAST + 1, -256, -224, -2, -1, 256, 257, 288, 370, 65568, GREATEST - 1, GREATEST};
        refusedEach(Edge::busy, OUTSIDE, letters, Run::feed);
        refusedEach(Run::new, OUTSIDE, letters, Run::feed);
        refusedEach(TermEdges::fullText, OUTSIDE, letters, Run::feed);
    }

    private static void feedFull() {
        of("P2", "FULL (240).");
        Run x = new Run().tell("r2;n1;");
        for (int i = 7; i <= 240; i++) {
            due(x.feed(' '), i);
        }
        due(x.feed(' '), FULL);
        due(x.feed('x'), FULL);
        due(x.feed(0), FULL);
        due(x.feed(255), FULL);
        due(x.told(2), 240);
        due(x.hostel(), 1);
        due(x.feed('r'), 1);
        refusedEach(TermEdges::fullText, FULL, new int[] {0, ' ', ';', 'x', 255}, Run::feed);
    }

    // ---- hostel, fault

    private static void hostelEmptiesText() {
        of("P3", "THE TEXT (it is empty then, with a FAULT, too) becomes THE HOSTEL");
        Run x = new Run().tell("r2;n1;");
        due(x.hostel(), 1);
        due(x.told(2), 0);
        due(x.hostel(), 0);
        due(x.told(0), 0);
        x.tell("r2;n2;");
        due(x.hostel(), -12);
        due(x.told(2), 0);
        due(x.hostel(), 0);
        // Nothing of the faulty text stands ahead of the next one.
        x.tell("r2;");
        due(x.hostel(), 0);
        x.tell("x").hostel();
        x.tell("r3;t1,0;");
        due(x.hostel(), 1);
        due(x.told(0), 3);
        same("house", section2(x), "1@0:0 ");
        // A HOSTEL becomes another, a greater and a smaller one.
        x.tell("r8;n7;n6;n5;n4;n3;n2;");
        due(x.hostel(), 6);
        due(x.told(0), 8);
        x.tell("r1;n0;");
        due(x.hostel(), 1);
        due(x.told(0), 1);
        same("house", section2(x), "-1@0:0 ");
        due(x.person(1, 0), UNKNOWN);
        due(x.room(1, 0), UNKNOWN);
        for (int n = 0; n <= 5; n++) {
            nothingOfTheGreater("r8;" + times("n7,0;", n));
        }
        nothingOfTheGreater("");
        nothingOfTheGreater("r1;t0;");
        nothingOfTheGreater("r8;t0,7;t7,6;");
        nothingOfTheGreater("r8;t3;t2,3;t1,2;n0;");
    }

    /** A HOSTEL that comes behind one of six PERSONS is as one that is the first. */
    private static void nothingOfTheGreater(String text) {
        Run x = new Run("r8;t0,1;t1,2;t2,3;t3,4;t4,5;t5,6;");
        gets(x);
        x.told(8);
        x.odds(5, 6);
        x.tell(text).hostel();
        Run y = new Run(text);
        for (int r = 0; r < 8; r++) {
            due(x.room(r, 0), y.room(r, 0));
            due(x.room(r, 1), y.room(r, 1));
        }
        due(x.couldBe(), y.couldBe());
        due(x.ask(), y.ask());
        due(x.moved(), y.moved());
        same("all of '" + text + "'", everything(x), everything(y));
    }

    private static void hostelForgets() {
        of("P3", "(LOTS as they came; nothing SEEN, no BOOK; IMAGES, what could be undone are gone; THE SEED stays):");
        String[] texts = {"", " ", "r3;", "r3;t0,1;t1,0,2;n0,2;"};
        for (String text : texts) {
            Run x = new Run("r3;t0,1;t1,0,2;n0,2;");
            x.lot(2, 0);
            x.keep(0);
            x.keep(1);
            x.lot(2, 1);
            x.see(0, false);
            x.write(0, 2);
            x.seed(2147483647);
            x.tell(text).hostel();
            due(x.told(9), 0);
            due(x.told(10), 0);
            due(x.told(11), 0);
            due(x.undo(1), NOT);
            due(x.goBack(0), NOT);
            due(x.goBack(1), NOT);
            due(x.seed(1), 2147483647);
            if (text.length() > 3) {
                same("lots", lots(x), "012");
                due(x.couldBe(), 7);
            }
            due(x.judge(), NONE);
        }
    }

    private static void hostelCounts() {
        of("P3", "how many PERSONS;");
        for (int n = 0; n <= 6; n++) {
            due(new Run().tell("r1;" + times("n0;", n)).hostel(), n);
        }
        due(new Run().hostel(), 0);
    }

    private static void hostelFault() {
        of("P3", "-10 less the number of its FAULT (all is as it was).");
        String[] texts = {"x", "r9;", "r2;n0;r", "r2;t1;t1;", "r2;n0;n1;n0,1;n"};
        int[] faults = {1, 2, 3, 4, 1};
        int[] letters = {0, 1, 6, 7, 15};
        for (int i = 0; i < texts.length; i++) {
            Run x = kept();
            x.tell(texts[i]);
            due(x.hostel(), -10 - faults[i]);
            due(x.fault(), letters[i]);
            same("all behind a FAULT " + faults[i], everything(x), everything(kept()));
        }
        // Without a HOSTEL there is none behind a FAULT either.
        for (int i = 0; i < texts.length; i++) {
            Run x = new Run();
            x.seed(9);
            x.keep(0);
            x.see(NONE, true);
            x.tell(texts[i]);
            due(x.hostel(), -10 - faults[i]);
            due(x.told(0), 0);
            due(x.told(1), 0);
            due(x.told(9), 1);
            due(x.goBack(0), 1);
            due(x.seed(0), 9);
        }
    }

    /** As busy(), but with an empty text, which is what a FAULT leaves, and both IMAGES. */
    private static Run kept() {
        Run x = new Run("r3;t0,1;t1,0,2;n0,2;");
        x.seed(5);
        x.lot(2, 0);
        x.keep(0);
        x.lot(2, 1);
        x.keep(1);
        x.like(0, 2, 0);
        x.leave(1);
        x.seed(7);
        x.see(0, false);
        x.write(0, 2);
        x.write(1, 2);
        return x;
    }

    private static void fault() {
        of("P4", "The letter of the FAULT of the latest hostel(); NONE.");
        Run x = new Run();
        due(x.fault(), NONE);
        x.tell("x");
        due(x.fault(), NONE);
        x.hostel();
        due(x.fault(), 0);
        x.tell("r2;n0");
        due(x.fault(), 0);
        x.hostel();
        due(x.fault(), 5);
        x.tell("r2;n0;").hostel();
        due(x.fault(), NONE);
        x.tell("r2;x").hostel();
        x.lot(0, 0);
        x.undo(1);
        x.keep(0);
        x.goBack(0);
        x.tear();
        due(x.fault(), 3);
        x.hostel();
        due(x.fault(), NONE);
        // The last letter that there can be, and the end of a full text.
        x.tell("r2;" + times(" ", 236) + "x").hostel();
        due(x.fault(), 239);
        x = new Run().tell("r2;" + times(" ", 236) + "n");
        x.hostel();
        due(x.fault(), 240);
    }

    // ---- told

    private static void toldN() {
        of("P5", "0 N (0 without a HOSTEL),");
        Run x = new Run();
        due(x.told(0), 0);
        for (int n = 1; n <= 8; n++) {
            x.tell("r" + n + ";").hostel();
            due(x.told(0), n);
        }
        x.hostel();
        due(x.told(0), 0);
    }

    private static void toldPersons() {
        of("P5", "1 PERSONS,");
        Run x = new Run();
        due(x.told(1), 0);
        for (int n = 0; n <= 6; n++) {
            x.tell("r1;" + times("n0;", n)).hostel();
            due(x.told(1), n);
        }
    }

    private static void toldLetters() {
        of("P5", "2 letters of THE TEXT,");
        Run x = new Run();
        due(x.told(2), 0);
        x.feed('r');
        due(x.told(2), 1);
        x.feed(-1);
        x.feed(256);
        due(x.told(2), 1);
        x.tell(times(" ", 238));
        due(x.told(2), 239);
        x.feed(' ');
        due(x.told(2), 240);
        x.feed(' ');
        due(x.told(2), 240);
        x.hostel();
        due(x.told(2), 0);
    }

    private static void toldRounds() {
        of("P5", "3 how many ROUNDS it takes,");
        due(new Run().told(3), 0);
        due(new Run("r1;").told(3), 0);
        due(new Run("r1;t0;").told(3), 1);
        due(new Run("r6;t0,1;t1,2;t2,3;t3,4;t4,5;t5,0;").told(3), 1);
        due(new Run("r6;n0;n1;n2;n3;n4;n5;").told(3), 6);
    }

    private static void toldEmptyHanded() {
        of("P5", "4 who gets none (a SET of PERSONS),");
        due(new Run().told(4), 0);
        due(new Run("r1;").told(4), 0);
        due(new Run("r1;n0;").told(4), 0);
        due(new Run("r1;n0;n0;n0;n0;n0;n0;").told(4), 62);
        Run x = new Run("r6;t0;t1;t2;t3;t4;t5;");
        due(x.told(4), 0);
        for (int p = 0; p < 6; p++) {
            x.leave(p);
        }
        due(x.told(4), 63);
    }

    private static void toldNobodyGets() {
        of("P5", "5 ROOMS nobody gets (a SET),");
        due(new Run().told(5), 0);
        due(new Run("r1;").told(5), 1);
        due(new Run("r8;").told(5), 255);
        due(new Run("r8;t0;n7;").told(5), 126);
        due(new Run("r1;n0;").told(5), 0);
        Run x = new Run("r8;t0;");
        x.leave(0);
        due(x.told(5), 255);
        // What its sitter would give up nobody gets, though he sits there yet.
        due(new Run("r2;t0,1;").told(5), 1);
    }

    private static void toldNobodySits() {
        of("P5", "6 ROOMS nobody sits in (a SET),");
        due(new Run().told(6), 0);
        due(new Run("r1;").told(6), 1);
        due(new Run("r8;").told(6), 255);
        due(new Run("r8;n0;").told(6), 255);
        due(new Run("r8;t0;t7;").told(6), 126);
        due(new Run("r6;t0;t1;t2;t3;t4;t5;").told(6), 0);
        due(new Run("r2;t0,1;").told(6), 2);
    }

    private static void toldGroup() {
        of("P5", "7 GROUP,");
        due(new Run().told(7), NONE);
        due(new Run("r8;").told(7), NONE);
        due(new Run("r2;t0,1;t1,0;").told(7), 3);
        due(new Run("r6;t0;t1;t2;t3;t4,5;t5,4;").told(7), 48);
        due(new Run("r2;t0,1;t1;").told(7), NONE);
    }

    private static void toldSets() {
        of("P5", "8 how many such SETS,");
        due(new Run().told(8), 0);
        due(new Run("r8;").told(8), 0);
        due(new Run("r2;t0,1;t1,0;").told(8), 1);
        due(new Run("r6;t0;t1;t2;t3;t4,5;t5,4;").told(8), 16);
        due(new Run("r2;t0,1;t1;").told(8), 0);
    }

    private static void toldSeen() {
        of("P5", "9 what is SEEN,");
        Run x = new Run("r1;n0;");
        due(x.told(9), 0);
        for (int i = 1; i <= 6; i++) {
            x.see(0, false);
            due(x.told(9), i);
        }
        x.see(0, true);
        x.see(1, true);
        due(x.told(9), 6);
        due(new Run().told(9), 0);
    }

    private static void toldBook() {
        of("P5", "10 entries of THE BOOK,");
        Run x = new Run("r1;n0;");
        due(x.told(10), 0);
        for (int i = 1; i <= 20; i++) {
            x.write(0, NONE);
            due(x.told(10), i);
        }
        x.write(0, 0);
        x.write(1, 0);
        due(x.told(10), 20);
        due(new Run().told(10), 0);
    }

    private static void toldUndone() {
        of("P5", "11 how many can be undone.");
        Run x = new Run("r1;n0;");
        due(x.told(11), 0);
        for (int i = 1; i <= 22; i++) {
            x.lot(0, 0);
            due(x.told(11), Math.min(i, 20));
        }
        x.undo(3);
        due(x.told(11), 17);
        x.undo(18);
        due(x.told(11), 17);
        x.undo(17);
        due(x.told(11), 0);
        due(new Run().told(11), 0);
    }

    private static void toldOutside() {
        of("P5", "OUTSIDE.");
        refusedEach(Edge::busy, OUTSIDE, farAnd(-1, 12, 13), Run::told);
        refusedEach(Run::new, OUTSIDE, farAnd(-1, 12, 13), Run::told);
    }

    // ---- person

    private static void personSits() {
        of("P6", "Of a PERSON: what = 0 where he sits (NONE),");
        same("seats", asked(new Run("r8;t0;t7;n0;"), 0), "0 7 -");
    }

    private static void personLikes() {
        of("P6", "1 how many he LIKES,");
        same("likes", asked(new Run("r8;t0;n0;t7,0,1,2,3,4,5,6,7;n0,1,2,3,4,5,6,7;"), 1), "0 1 8 8");
    }

    private static void personPlace() {
        of("P6", "2 his place in LOTS,");
        Run x = new Run("r1;n0;n0;n0;n0;n0;n0;");
        same("places", asked(x, 2), "0 1 2 3 4 5");
        x.lot(0, 5);
        same("places", asked(x, 2), "5 0 1 2 3 4");
    }

    private static void personGets() {
        of("P6", "3 GETS (NONE),");
        same("gets", asked(new Run("r8;n0;n7;n0;t1;"), 3), "0 7 - 1");
    }

    private static void personRound() {
        of("P6", "4 ROUND,");
        same("rounds", asked(new Run("r6;n0;n1;n2;n3;n4;n5;"), 4), "0 1 2 3 4 5");
        same("rounds", asked(new Run("r6;t0;t1;t2;t3;t4;t5;"), 4), "0 0 0 0 0 0");
    }

    private static void personRing() {
        of("P6", "5 RING,");
        same("rings", asked(new Run("r6;t0;n1;t2,3;t3,2;n5;n5;"), 5), "1 2 12 12 16 32");
    }

    private static void personByLot() {
        of("P6", "6 BY LOT,");
        same("by lot", asked(new Run("r2;n0;t1,0;n1,0;"), 6), "0 1 -");
        same("gets", asked(new Run("r2;n0;t1,0;n1,0;"), 3), "0 1 -");
        // GIVEN OUT in a ring they all get what they want; by lot only he whose room is free.
        same("by lot", asked(new Run("r2;t0,1;t1,0;"), 6), "0 1");
        same("gets", asked(new Run("r2;t0,1;t1,0;"), 3), "1 0");
    }

    private static void personBetter() {
        of("P6", "7 BETTER.");
        same("better", asked(new Run("r5;t0;t1;t2;t3;t4;n0,1,2,3,4;"), 7), "0 0 0 0 0 5");
        same("better", asked(new Run("r6;t0;t1;t2;t3;t4;t5,0,1,2,3,4;"), 7), "0 0 0 0 0 5");
    }

    private static void personUnknown() {
        of("P6", "UNKNOWN,");
        for (int what = -1; what <= 8; what++) {
            int asked = what;
            refusedEach(Edge::busy, UNKNOWN, new int[] {LEAST, -1, 3, 6, GREATEST}, (x, p) -> x.person(p, asked));
        }
        refusedEach(Edge::busy, UNKNOWN, farAnd(-1, 3, 4, 5, 6, 7, 8), (x, p) -> x.person(p, 0));
        refusedEach(() -> new Run("r1;n0;n0;n0;n0;n0;n0;"), UNKNOWN, new int[] {-1, 6}, (x, p) -> x.person(p, 3));
        refusedEach(() -> new Run("r8;"), UNKNOWN, new int[] {-1, 0, 1}, (x, p) -> x.person(p, 3));
        refusedEach(Run::new, UNKNOWN, new int[] {-1, 0, 1}, (x, p) -> x.person(p, 3));
    }

    private static void personOutside() {
        of("P6", "OUTSIDE.");
        refusedEach(Edge::busy, OUTSIDE, farAnd(-1, 8, 9), (x, what) -> x.person(0, what));
        refusedEach(Edge::busy, OUTSIDE, new int[] {-1, 8}, (x, what) -> x.person(2, what));
    }

    // ---- likes, room

    private static void likes() {
        of("P7", "The k-th ROOM that a PERSON LIKES; NONE: not so many.");
        Run x = new Run("r8;n7,6,5,4,3,2,1,0;t3;n5,6;");
        for (int k = 0; k < 8; k++) {
            due(x.likes(0, k), 7 - k);
            due(x.likes(1, k), NONE);
        }
        due(x.likes(0, 8), NONE);
        due(x.likes(2, 0), 5);
        due(x.likes(2, 1), 6);
        due(x.likes(2, 2), NONE);
        // A k below 0 is not so many either: the promise names no OUTSIDE.
        for (int k : farAnd(-1, 8, 9, 16)) {
            due(x.likes(0, k), NONE);
            due(x.likes(2, k), NONE);
        }
        // What was struck out is not LIKED any more, whatever stood there.
        x.strike(0, 7);
        due(x.likes(0, 6), 0);
        due(x.likes(0, 7), NONE);
    }

    private static void likesUnknown() {
        of("P7", "UNKNOWN.");
        refusedEach(Edge::busy, UNKNOWN, farAnd(-1, 3, 4, 5, 6, 7), (x, p) -> x.likes(p, 0));
        refusedEach(Edge::busy, UNKNOWN, new int[] {-1, 3}, (x, p) -> x.likes(p, LEAST));
        refusedEach(Edge::busy, UNKNOWN, new int[] {-1, 3}, (x, p) -> x.likes(p, GREATEST));
        refusedEach(() -> new Run("r8;"), UNKNOWN, new int[] {0}, (x, p) -> x.likes(p, 0));
    }

    private static void roomSits() {
        of("P8", "Of a ROOM: what = 0 who sits in it,");
        Run x = new Run("r8;t7;n0;t0,1;");
        due(x.room(0, 0), 2);
        due(x.room(1, 0), NONE);
        due(x.room(7, 0), 0);
        due(new Run("r1;t0;").room(0, 0), 0);
    }

    private static void roomGets() {
        of("P8", "1 who gets it (NONE).");
        Run x = new Run("r8;t7;n0;t0,1;");
        due(x.room(0, 1), 1);
        due(x.room(1, 1), 2);
        due(x.room(2, 1), NONE);
        due(x.room(7, 1), 0);
        due(new Run("r8;").room(7, 1), NONE);
    }

    private static void roomUnknown() {
        of("P8", "UNKNOWN,");
        for (int what = -1; what <= 2; what++) {
            int asked = what;
            refusedEach(Edge::busy, UNKNOWN, new int[] {LEAST, -1, 3, 8, GREATEST}, (x, r) -> x.room(r, asked));
        }
        refusedEach(Edge::busy, UNKNOWN, farAnd(-1, 3, 4, 7, 8), (x, r) -> x.room(r, 0));
        refusedEach(() -> new Run("r8;"), UNKNOWN, new int[] {-1, 8}, (x, r) -> x.room(r, 1));
        refusedEach(Run::new, UNKNOWN, new int[] {-1, 0}, (x, r) -> x.room(r, 1));
    }

    private static void roomOutside() {
        of("P8", "OUTSIDE.");
        refusedEach(Edge::busy, OUTSIDE, farAnd(-1, 2, 3), (x, what) -> x.room(0, what));
        refusedEach(Edge::busy, OUTSIDE, new int[] {-1, 2}, (x, what) -> x.room(2, what));
    }
}
