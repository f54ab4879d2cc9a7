import java.math.BigInteger;

/** Section 3: what is ASKED, SEEN, THE BOOK, BY DRAWS, UNDONE, IMAGES. */
final class AskedEdges extends Edge {
    private static final String ALL_ENVY = "r6;t0,1,2,3,4,5;t1,0,2,3,4,5;t2,0,1,3,4,5;t3,0,1,2,4,5;t4,0,1,2,3,5;t5,0,1,2,3,4;";
    private static final BigInteger FACTOR = BigInteger.valueOf(1103515245);
    private static final BigInteger STEP = BigInteger.valueOf(12345);
    private static final BigInteger SPAN = BigInteger.ONE.shiftLeft(31);

    private AskedEdges() {
    }

    static void run() {
        askedChangesNothing();
        asItWouldBeNow();
        ringAlone();
        byLot();
        elseOf();
        better();
        groupLeast();
        groupCount();
        oddsOf();
        seenSix();
        couldBe();
        askBest();
        quietNights();
        book();
        seedAtFirst();
        seedStep();
        drawOf();
        timesIfPersons();
        drawKindAndPerson();
        drawLike();
        drawStrike();
        drawLot();
        drawMoved();
        undoneDeeds();
        undoneTwenty();
        undoneSection2();
        imagesKeep();
        untold("3", "Ahead of the calls `feed`, `hostel`, `fault`, `told`, `person`, `likes`, `room` the interface says: "
            + "---- the hostel.");
        untold("3", "Ahead of the calls `like`, `strike`, `lot`, `refuse`, `moved`, `leave`, `drift`, `undo` the interface "
            + "says: ---- deeds.");
        untold("3", "Ahead of the calls `otherwise`, `odds`, `quiet` the interface says: ---- asked.");
        untold("3", "Ahead of the calls `see`, `couldBe`, `ask`, `write`, `judge`, `tear` the interface says: ---- what is "
            + "seen.");
        untold("3", "Ahead of the calls `seed`, `keep`, `goBack` the interface says: ---- images.");
    }

    private static void askedChangesNothing() {
        of("3", "ASKED, nothing changes by it.");
        Run x = busy();
        for (int what = 0; what <= 11; what++) {
            x.told(what);
        }
        for (int p = 0; p < 3; p++) {
            for (int what = 0; what <= 7; what++) {
                x.person(p, what);
            }
            x.likes(p, 0);
            x.room(p, 0);
            x.room(p, 1);
            x.otherwise(p, p);
            x.otherwise(p, 2 - p);
            x.odds(p, p);
            x.odds(p, NONE);
        }
        x.quiet(60, 99);
        x.couldBe();
        x.ask();
        x.judge();
        same("all behind what was asked", everything(x), everything(busy()));
    }

    private static void asItWouldBeNow() {
        of("3", "GETS, ROUND, RING of a PERSON: as it would be GIVEN OUT now.");
        Run x = new Run("r3;t0,1;n0;");
        same("gets", gets(x), "1 0");
        same("rounds", asked(x, 4), "0 1");
        same("rings", asked(x, 5), "1 2");
        x.lot(1, 0);
        same("gets", gets(x), "1 0");
        same("rounds", asked(x, 4), "0 0");
        same("rings", asked(x, 5), "3 3");
        x.strike(0, 1);
        same("gets", gets(x), "0 -");
        x.undo(2);
        same("rings", asked(x, 5), "1 2");
    }

    private static void ringAlone() {
        of("3", "RING is the SET of PERSONS who are done with him (himself alone, if he gets none).");
        Run x = new Run("r1;n0;n0;n0;n0;n0;n0;");
        same("five are done in one ROUND, each alone", asked(x, 5), "1 2 4 8 16 32");
        same("rounds", asked(x, 4), "0 1 1 1 1 1");
        // Two RINGS of one ROUND are not done with one another.
        x = new Run("r4;t0,1;t1,0;t2,3;t3,2;");
        same("rings", asked(x, 5), "3 3 12 12");
        x = new Run("r2;t0;t1;");
        same("rings", asked(x, 5), "1 2");
    }

    private static void byLot() {
        of("3", "BY LOT: what he would get, if by LOTS one behind the other took what he would have most of ROOMS that are "
            + "left, and in which nobody sits who did not choose yet (but himself); NONE.");
        // The sitter did not choose yet: his room is not to be had, though he would give it up.
        Run x = new Run("r2;t0,1;n0;");
        x.lot(1, 0);
        same("by lot", asked(x, 6), "1 -");
        // He chose: his room is to be had.
        x.lot(0, 0);
        same("by lot", asked(x, 6), "1 0");
        // But himself: he may stay where he sits.
        same("by lot", asked(new Run("r2;t0;t1,0;"), 6), "0 1");
        // What one took is not left.
        same("by lot", asked(new Run("r2;n0;n0,1;n0,1;"), 6), "0 1 -");
        // He who stays keeps his room from those behind him.
        same("by lot", asked(new Run("r2;t0,0,1;n0,1;n0,1;"), 6), "0 1 -");
        // What he LIKES behind where he sits he would not have.
        same("by lot", asked(new Run("r3;t1;t0,1,0,2;"), 6), "1 0");
        // A ring is nothing to those who choose by lot: each wants a room whose sitter did not choose yet, or stayed.
        same("by lot", asked(new Run("r6;t0,1;t1,2;t2,3;t3,4;t4,5;t5,0;"), 6), "0 1 2 3 4 5");
        x = new Run("r1;t0;");
        x.leave(0);
        same("by lot", asked(x, 6), "-");
    }

    private static void elseOf() {
        of("3", "ELSE of a PERSON and a ROOM: what he would get, if he LIKED just that ROOM (as it is with the others now); "
            + "NONE.");
        Run x = new Run("r4;t0,1;t1,0;n3,2;n3;");
        due(x.otherwise(0, 0), 0);
        due(x.otherwise(0, 1), 1);
        due(x.otherwise(0, 2), 2);
        due(x.otherwise(0, 3), 3);
        due(x.otherwise(1, 2), 2);
        // As it is with the others now: 2 is ahead of 3 by lot.
        due(x.otherwise(2, 3), 3);
        due(x.otherwise(3, 3), NONE);
        due(x.otherwise(3, 0), NONE);
        // His other LIKES do not count then; where he sits does.
        due(x.otherwise(2, 0), NONE);
        x.lot(3, 0);
        due(x.otherwise(2, 3), NONE);
        due(x.otherwise(2, 2), 2);
        x = new Run("r2;t0,1;t1;");
        due(x.otherwise(0, 1), 0);
        x = new Run("r8;t0,1,2,3,4,5,6,7,0;");
        due(x.otherwise(0, 7), 7);
    }

    private static void better() {
        of("3", "BETTER: how many ROOMS there are that he would rather have than what he GETS.");
        Run x = new Run("r5;n0;n1;n2;n3;n4;n0,1,2,3,4;");
        same("gets", gets(x), "0 1 2 3 4 -");
        same("better", asked(x, 7), "0 0 0 0 0 5");
        // Where he sits is LIKED between: what stands behind it does not count.
        same("better", asked(new Run("r4;t0,1,0,2,3;t1;"), 7), "1 0");
        same("better", asked(new Run("r3;t0,1,2;t1;t2;"), 7), "2 0 0");
        same("better", asked(new Run("r3;n0,1,2;n0,1,2;n0,1,2;n0,1,2;"), 7), "0 1 2 3");
        x = new Run("r8;t0;");
        x.leave(0);
        same("better", asked(x, 7), "0");
    }

    private static void groupIs(String text, int least, int count) {
        Run x = new Run(text);
        due(x.told(7), least);
        due(x.told(8), count);
    }

    private static void groupLeast() {
        of("3", "GROUP: the least SET of PERSONS who sit (the fewest; of like ones the least number) who could part the "
            + "ROOMS in which they sit among themselves so that none of them is worse off than where he sits, and at least "
            + "one better; NONE.");
        groupIs(ALL_ENVY, 3, 57);
        // The fewest ahead of the least number: three of them are 7, two of them 24.
        groupIs("r5;t0,1;t1,2;t2,0;t3,4;t4,3;", 24, 11);
        // Of like ones the least number.
        groupIs("r6;t0;t1;t2,3;t3,2;t4,5;t5,4;", 12, 28);
        groupIs("r6;t0,1;t1,2;t2,3;t3,4;t4,5;t5,0;", 63, 1);
        // At least one better: to stay where they sit is nothing.
        groupIs("r2;t0;t1;", NONE, 0);
        groupIs("r1;t0;", NONE, 0);
        // None worse off: 0 LIKES where he sits more.
        groupIs("r2;t0,0,1;t1,0;", NONE, 0);
        groupIs("r2;t0,1;t1;", NONE, 0);
        // A row that does not come round, of two to six, in either direction.
        groupIs("r6;t0,1;t1,2;t2,3;t3,4;t4,5;t5;", NONE, 0);
        groupIs("r6;t0;t1,0;t2,1;t3,2;t4,3;t5,4;", NONE, 0);
        // PERSONS who sit: not through empty rooms, nor with those who have just come.
        groupIs("r3;t0,2;t1,0;", NONE, 0);
        groupIs("r2;t0,1;n0;", NONE, 0);
        groupIs("r2;n0,1;n1,0;", NONE, 0);
        groupIs("r3;n2;t0,1;t1,0;", 6, 1);
        groupIs("r8;", NONE, 0);
        due(new Run().told(7), NONE);
    }

    private static void groupCount() {
        of("3", "How many such SETS there are.");
        groupIs("r2;t0,1;t1,0;", 3, 1);
        // With a third who stays where he sits.
        groupIs("r3;t0,1;t1,0;t2;", 3, 2);
        groupIs("r4;t0,1;t1,0;t2,3;t3,2;", 3, 7);
        groupIs("r6;t0,1;t1,0;t2;t3;t4;t5;", 3, 16);
        due(new Run().told(8), 0);
        Run x = new Run("r2;t0,1;t1,0;");
        x.leave(0);
        due(x.told(8), 0);
        x.undo(1);
        due(x.told(8), 1);
        x.moved();
        due(x.told(8), 0);
    }

    private static void oddsOf() {
        of("3", "ODDS of a PERSON and a ROOM: of all orders of LOTS (of all PERSONS), by how many he gets it (NONE for the "
            + "ROOM: none).");
        int[] orders = {1, 1, 2, 6, 24, 120, 720};
        for (int n = 1; n <= 6; n++) {
            Run x = new Run("r2;" + times("n0;", n));
            due(x.odds(0, 0), orders[n] / n);
            due(x.odds(n - 1, 0), orders[n] / n);
            due(x.odds(0, NONE), orders[n] - orders[n] / n);
            due(x.odds(0, 1), 0);
        }
        // Whoever sits is among those whose order counts, too.
        Run x = new Run("r6;t0;t1;t2;t3;t4;t5;");
        due(x.odds(5, 5), 720);
        due(x.odds(5, NONE), 0);
        due(x.odds(0, 5), 0);
        // The order of now does not count.
        x = new Run("r2;n0,1;n0,1;");
        x.lot(1, 0);
        due(x.odds(0, 0), 1);
        due(x.odds(1, 0), 1);
    }

    private static void seenSix() {
        of("3", "SEEN (6 at most): one unknown PERSON, as it is GIVEN OUT now, got a ROOM (or NONE), or did not.");
        Run x = new Run("r6;n0;n1;n2;n3;n4;n4;");
        for (int i = 1; i <= 6; i++) {
            due(x.see(i == 6 ? NONE : i - 1, false), i);
        }
        // The sixth counts, and a seventh does not come.
        due(x.couldBe(), 0);
        due(x.see(5, false), FULL);
        due(x.told(9), 6);
        x.like(5, 5, 0);
        due(x.couldBe(), 32);
        x = new Run("r2;n0;n0;");
        x.see(NONE, true);
        due(x.couldBe(), 2);
        x.lot(1, 0);
        due(x.couldBe(), 1);
    }

    private static void couldBe() {
        of("3", "COULD BE: PERSONS (a SET) by whom all that is SEEN is so.");
        Run x = new Run("r6;n0;n1;n2;n3;n4;n4;");
        due(x.couldBe(), 63);
        x.see(0, false);
        due(x.couldBe(), 62);
        x.see(4, false);
        due(x.couldBe(), 46);
        x.see(NONE, false);
        due(x.couldBe(), 14);
        x.see(5, false);
        due(x.couldBe(), 14);
        x.see(3, true);
        due(x.couldBe(), 8);
        x.see(3, true);
        due(x.couldBe(), 8);
        x.tear();
        x.see(3, true);
        x.see(3, false);
        due(x.couldBe(), 0);
        due(new Run().couldBe(), 0);
        due(new Run("r8;").couldBe(), 0);
    }

    private static void askBest() {
        of("3", "ASK: the ROOM by which, got or not, these are told apart best: the greater part is least; of like ones the "
            + "least; NONE: none parts them.");
        due(new Run("r8;n7;n5;n6;").ask(), 5);
        due(new Run("r8;n7;n7;").ask(), 7);
        due(new Run("r8;n0;n0;n0;").ask(), 0);
        Run x = new Run("r8;n7;n5;n6;n6;");
        x.see(5, false);
        due(x.ask(), 6);
        x.see(6, false);
        due(x.couldBe(), 9);
        due(x.ask(), 7);
        x.see(7, false);
        due(x.couldBe(), 8);
        due(x.ask(), NONE);
        x.see(NONE, false);
        due(x.couldBe(), 0);
        due(x.ask(), NONE);
        // Two who both got none are parted by no ROOM.
        x = new Run("r1;n0;n0;n0;");
        x.see(0, false);
        due(x.couldBe(), 6);
        due(x.ask(), NONE);
        due(new Run("r1;n0;").ask(), NONE);
        due(new Run("r8;").ask(), NONE);
        due(new Run().ask(), NONE);
    }

    private static void quietNights() {
        of("3", "QUIET: odds of n nights (0 .. 60), each by q of a hundred (0 .. 100): a BILLION times q / 100 each (cut).");
        Run x = new Run();
        due(x.quiet(0, 0), 1000000000);
        due(x.quiet(0, 100), 1000000000);
        due(x.quiet(1, 0), 0);
        due(x.quiet(60, 0), 0);
        due(x.quiet(1, 1), 10000000);
        due(x.quiet(4, 1), 10);
        due(x.quiet(5, 1), 0);
        due(x.quiet(60, 1), 0);
        due(x.quiet(1, 99), 990000000);
        due(x.quiet(1, 100), 1000000000);
        due(x.quiet(60, 100), 1000000000);
        // A BILLION times q goes beyond an int, and each product is cut.
        int[] chances = {3, 22, 50, 67, 98, 99};
        for (int q : chances) {
            BigInteger v = BigInteger.valueOf(1000000000);
            for (int n = 1; n <= 60; n++) {
                v = v.multiply(BigInteger.valueOf(q)).divide(BigInteger.valueOf(100));
                due(x.quiet(n, q), v.intValueExact());
            }
        }
        due(x.quiet(60, 99), 547156620);
    }

    private static void book() {
        of("3", "THE BOOK (20 at most) tells what PERSONS get (NONE: nothing): WRONG: the first that is otherwise now; NONE.");
        Run x = new Run("r3;n0;n0;");
        due(x.judge(), NONE);
        for (int i = 1; i <= 19; i++) {
            due(x.write(i % 2, i % 2 == 0 ? 0 : NONE), i);
        }
        due(x.judge(), NONE);
        due(x.write(1, 0), 20);
        due(x.judge(), 19);
        due(x.write(0, NONE), FULL);
        due(x.judge(), 19);
        x.lot(1, 0);
        due(x.judge(), 0);
        x.undo(1);
        due(x.judge(), 19);
        x.tear();
        x.write(0, 0);
        x.write(1, 1);
        x.write(0, 2);
        due(x.judge(), 1);
        x.like(1, 1, 0);
        due(x.judge(), 2);
        x.tear();
        x.write(0, NONE);
        due(x.judge(), 0);
    }

    // ---- by draws

    private static int step(int seed) {
        return BigInteger.valueOf(seed).multiply(FACTOR).add(STEP).mod(SPAN).intValueExact();
    }

    /** The seed whose next step is this one. */
    private static int ahead(int seed) {
        return BigInteger.valueOf(seed).subtract(STEP).multiply(FACTOR.modInverse(SPAN)).mod(SPAN).intValueExact();
    }

    private static int draw(int seed, int n) {
        return seed / 65536 % n;
    }

    /** A run whose next time BY DRAWS begins behind this seed. */
    private static Run seeded(String text, int seed) {
        Run x = new Run(text);
        x.seed(seed);
        return x;
    }

    private static void seedAtFirst() {
        of("3", "BY DRAWS: THE SEED (0 at first:");
        due(new Run().seed(1), 0);
        // 12345 / 65536 is 0: LIKE, which makes four draws.
        Run x = new Run("r3;t0,1;n2;");
        x.drift(1);
        due(x.seed(0), step(step(step(step(0)))));
    }

    private static void seedStep() {
        of("3", "each DRAW it becomes it times 1103515245 and 12345, left over by 2 to the 31;");
        due(ahead(step(2147483647)), 2147483647);
        int[] seeds = {0, 1, 2, 3, 4, 65535, 65536, 1073741823, 1073741824, 2147483646, 2147483647, 137, 1548816223};
        for (int seed : seeds) {
            Run x = seeded("r3;t0,1;n2;", seed);
            x.drift(1);
            int kind = draw(step(seed), 4);
            int draws = kind == 0 ? 4 : kind == 3 ? 2 : 3;
            int due = seed;
            for (int i = 0; i < draws; i++) {
                due = step(due);
            }
            due(x.seed(0), due);
        }
        // The step that ends just below 2 to the 31 (32767 of 4: MOVED), and the one that comes to it and is 0 then (LIKE).
        Run x = seeded("r3;t0,1;n2;", ahead(2147483647));
        x.drift(1);
        due(x.seed(0), step(2147483647));
        due(x.person(0, 0), 1);
        x = seeded("r3;t0,1;n2;", ahead(0));
        x.drift(1);
        due(x.seed(0), step(step(step(0))));
        due(x.told(6), 6);
        // The last draw ends at the bounds themselves.
        for (int end : new int[] {0, 1, 2147483646, 2147483647}) {
            for (int ahead = 2; ahead <= 4; ahead++) {
                int seed = end;
                for (int i = 0; i < ahead; i++) {
                    seed = ahead(seed);
                }
                int kind = draw(step(seed), 4);
                if (ahead == (kind == 0 ? 4 : kind == 3 ? 2 : 3)) {
                    x = seeded("r3;t0,1;n2;", seed);
                    x.drift(1);
                    due(x.seed(0), end);
                }
            }
        }
    }

    private static void drawOf() {
        of("3", "the DRAW of n is it / 65536, left over by n):");
        // Just below and at each edge of the division; what is told is the kind, by how the house changes.
        int[] firsts = {65535, 65536, 131071, 131072, 196607, 196608, 262143, 262144, 2147418111, 2147418112, 2147483647};
        for (int first : firsts) {
            Run x = seeded("r3;t0,1;n2;n0;", ahead(first));
            Run y = new Run("r3;t0,1;n2;n0;");
            doneBy(y, first);
            x.drift(1);
            same("kind " + draw(first, 4), section2(x), section2(y));
        }
    }

    /** What a time BY DRAWS does whose first draw brought this seed, by the plain calls; the seed behind it. */
    private static int doneBy(Run y, int first) {
        int second = step(first);
        int third = step(second);
        int persons = y.told(1);
        int rooms = y.told(0);
        int p = draw(second, persons);
        switch (draw(first, 4)) {
            case 0:
                y.like(p, draw(third, rooms), draw(step(third), 8));
                return step(third);
            case 1:
                y.strike(p, draw(third, rooms));
                return third;
            case 2:
                y.lot(p, draw(third, persons));
                return third;
            default:
                y.moved();
                return second;
        }
    }

    private static void timesIfPersons() {
        of("3", "n times, if there are PERSONS:");
        int[] times = {1, 2, 19, 20};
        for (int n : times) {
            Run x = seeded("r3;t0,1;n2;n0;", 4711);
            Run y = new Run("r3;t0,1;n2;n0;");
            int seed = 4711;
            for (int i = 0; i < n; i++) {
                seed = doneBy(y, step(seed));
            }
            due(x.drift(n), Integer.bitCount(y.told(6)));
            same("after " + n, section2(x), section2(y));
            due(x.told(11), n);
            due(x.seed(0), seed);
            // No PERSONS: nothing is drawn, and nothing can be undone.
            x = seeded("r3;", 4711);
            due(x.drift(n), 3);
            due(x.told(11), 0);
            due(x.seed(0), 4711);
        }
    }

    /** The first seed from which the draws are this kind, this person and what comes then. */
    private static int seedFor(int kind, int persons, int p, int n, int third) {
        for (int seed = 0; seed < 1000000; seed++) {
            int a = step(seed);
            if (draw(a, 4) == kind && draw(step(a), persons) == p && draw(step(step(a)), n) == third) {
                return seed;
            }
        }
        return NONE;
    }

    private static void drawKindAndPerson() {
        of("3", "a DRAW of 4, of PERSONS:");
        for (int p = 0; p < 6; p++) {
            Run x = seeded("r1;n0;n0;n0;n0;n0;n0;", seedFor(1, 6, p, 1, 0));
            due(x.drift(1), 1);
            for (int q = 0; q < 6; q++) {
                due(x.person(q, 1), q == p ? 0 : 1);
            }
        }
    }

    private static void drawLike() {
        of("3", "on 0 a DRAW of N, of 8: LIKE that ROOM there;");
        int[] seen = new int[8];
        for (int seed = 0, found = 0; seed < 5000 && found < 60; seed++) {
            int first = step(seed);
            if (draw(first, 4) == 0) {
                found++;
                int r = draw(step(step(first)), 8);
                int k = draw(step(step(step(first))), 8);
                seen[k] |= 1 << r;
                Run x = seeded("r8;n7,6,5,4,3,2,1,0;", seed);
                x.drift(1);
                StringBuilder due = new StringBuilder("76543210").deleteCharAt(7 - r).insert(k, r);
                same("ROOM " + r + " at " + k, likes(x, 0), due.toString());
            }
        }
        for (int k = 0; k < 8; k++) {
            due(seen[k] != 0 ? k : NONE, k);
        }
        // A ROOM that he did not LIKE comes behind the last, if there are fewer.
        Run x = seeded("r2;t0;", seedFor(0, 1, 0, 2, 1));
        x.drift(1);
        same("likes", likes(x, 0), "1");
    }

    private static void drawStrike() {
        of("3", "on 1 a DRAW of N: STRIKE that ROOM, if he LIKES it;");
        for (int r = 0; r < 8; r++) {
            int seed = seedFor(1, 1, 0, 8, r);
            Run x = seeded("r8;n0,1,2,3,4,5,6,7;", seed);
            x.drift(1);
            same("struck", likes(x, 0), "01234567".replace("" + r, ""));
            due(x.told(11), 1);
            due(x.seed(0), step(step(step(seed))));
            // He LIKES it not: nothing is struck, but it is one of the times that can be undone.
            x = seeded("r8;t0," + (r + 1) % 8 + ";", seed);
            x.drift(1);
            same("not struck", likes(x, 0), "" + (r + 1) % 8);
            due(x.told(11), 1);
            due(x.seed(0), step(step(step(seed))));
            due(x.undo(1), 0);
        }
    }

    private static void drawLot() {
        of("3", "on 2 a DRAW of PERSONS: LOT;");
        for (int p = 0; p < 6; p += 5) {
            for (int place = 0; place < 6; place++) {
                Run x = seeded("r1;n0;n0;n0;n0;n0;n0;", seedFor(2, 6, p, 6, place));
                x.drift(1);
                StringBuilder due = new StringBuilder("012345").deleteCharAt(p).insert(place, p);
                same("lots", lots(x), due.toString());
            }
        }
    }

    private static void drawMoved() {
        of("3", "on 3 MOVED.");
        int seed = seedFor(3, 3, 1, 1, 0);
        Run x = seeded("r3;t0,1;t1,0;n2;", seed);
        due(x.drift(1), 0);
        same("seats", asked(x, 0), "1 0 2");
        due(x.seed(0), step(step(seed)));
    }

    // ---- undone, images

    private static void undoneDeeds() {
        of("3", "UNDONE: the latest deeds (like(), strike(), lot(), refuse(), moved(), leave(), each of the times BY DRAWS)");
        Call[] deeds = {x -> x.refuse(0), x -> x.like(0, 2, 0), x -> x.strike(1, 0), x -> x.lot(2, 0), x -> x.moved(),
            x -> x.leave(1), x -> x.drift(1)};
        Run x = new Run("r3;t0,1;t1,0;n2;");
        x.seed(99);
        String[] ahead = new String[deeds.length];
        for (int i = 0; i < deeds.length; i++) {
            ahead[i] = section2(x);
            deeds[i].on(x);
            due(x.told(11), i + 1);
        }
        for (int i = deeds.length - 1; i >= 0; i--) {
            due(x.undo(1), i);
            same("ahead of deed " + i, section2(x), ahead[i]);
        }
        // Deeds by which nothing changes are deeds, too.
        x = new Run("r3;t0,1;t1;");
        x.like(0, 1, 0);
        x.lot(1, 1);
        x.strike(0, 1);
        due(x.moved(), 0);
        due(x.told(11), 4);
        // What is seen, written, fed, seeded or refused is none.
        x.see(0, true);
        x.write(0, 0);
        x.feed('r');
        x.seed(3);
        x.strike(0, 1);
        x.tear();
        due(x.told(11), 4);
        x.drift(5);
        due(x.told(11), 9);
        due(x.undo(5), 4);
    }

    private static void undoneTwenty() {
        of("3", "since the text or IMAGE (20 at most are kept):");
        Run x = new Run("r2;n0;n1;");
        String[] ahead = new String[24];
        for (int i = 0; i < 24; i++) {
            due(x.told(11), Math.min(i, 20));
            ahead[i] = x.person(0, 2) + likes(x, i % 2);
            if (i % 3 == 0) {
                x.lot(0, 1 - x.person(0, 2));
            } else {
                x.like(i % 2, i / 2 % 2, i % 3);
            }
        }
        due(x.told(11), 20);
        for (int i = 23; i >= 4; i--) {
            due(x.undo(1), i - 4);
            same("ahead of deed " + i, x.person(0, 2) + likes(x, i % 2), ahead[i]);
        }
        due(x.undo(1), NOT);
        // The twenty-first deed pushes out the first: it cannot be undone any more.
        x = new Run("r8;n0;");
        for (int i = 1; i <= 21; i++) {
            x.like(0, i % 8, 0);
        }
        due(x.undo(20), 0);
        same("the first deed stays", likes(x, 0), "10");
        // Since the text, since the IMAGE.
        x = new Run("r2;n0;n1;");
        x.lot(0, 1);
        x.keep(0);
        due(x.told(11), 0);
        x.lot(0, 0);
        due(x.told(11), 1);
        x.goBack(0);
        due(x.told(11), 0);
        due(x.undo(1), NOT);
        x.lot(0, 0);
        x.tell("r2;n0;").hostel();
        due(x.told(11), 0);
        due(x.undo(1), NOT);
    }

    private static void undoneSection2() {
        of("3", "all of section 2 is as ahead of them; THE SEED stays.");
        Run x = new Run("r3;t0,1;t1,0;n2;");
        String ahead = section2(x) + gets(x);
        x.seed(12);
        x.drift(20);
        String between = section2(x) + gets(x);
        int seed = x.seed(2147483647);
        x.drift(20);
        int last = x.seed(0);
        x.seed(last);
        due(x.undo(20), 0);
        same("twenty of forty undone", section2(x) + gets(x), between);
        due(x.seed(seed), last);
        x = new Run("r3;t0,1;t1,0;n2;");
        x.seed(12);
        x.drift(20);
        due(x.undo(20), 0);
        same("twenty undone", section2(x) + gets(x), ahead);
        due(x.seed(0), seed);
        // Together they are undone as one by one.
        x = new Run("r3;t0,1;t1,0;n2;");
        x.leave(0);
        x.like(2, 0, 0);
        x.moved();
        due(x.undo(3), 0);
        same("three undone", section2(x) + gets(x), ahead);
    }

    private static void imagesKeep() {
        of("3", "IMAGES 0, 1 keep all of section 2, THE SEED.");
        Run x = new Run("r3;t0,1;t1,0;n2;");
        String first = section2(x);
        x.seed(2147483647);
        due(x.keep(0), 1);
        x.moved();
        x.lot(2, 0);
        x.like(2, 0, 0);
        x.leave(1);
        x.seed(0);
        String second = section2(x);
        due(x.keep(1), 1);
        x.seed(55);
        x.drift(20);
        due(x.goBack(0), 1);
        same("image 0", section2(x), first);
        due(x.seed(55), 2147483647);
        x.drift(20);
        due(x.goBack(1), 1);
        same("image 1", section2(x), second);
        due(x.seed(55), 0);
        // They can be gone back to again, and what is done then does not change them.
        x.drift(20);
        due(x.goBack(0), 1);
        same("image 0", section2(x), first);
        due(x.seed(55), 2147483647);
        // SEEN, THE BOOK and THE TEXT are no part of them.
        x.see(0, true);
        x.write(0, 0);
        x.feed('r');
        x.goBack(1);
        due(x.told(9), 1);
        due(x.told(10), 1);
        due(x.told(2), 1);
    }
}
