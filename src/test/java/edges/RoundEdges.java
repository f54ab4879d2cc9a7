/** Section 2: LOTS, what a PERSON would have, how it is GIVEN OUT, and the deeds. */
final class RoundEdges extends Edge {
    private RoundEdges() {
    }

    static void run() {
        lotsAtFirst();
        wouldHave();
        allAtFirst();
        doneAtOnce();
        pointsAtBest();
        roomPointsAtSitter();
        roomPointsAtFirst();
        ringOf();
        inRings();
        ends();
        likeAt();
        strikeOut();
        lotTo();
        refusedRoom();
        movedAll();
        leaves();
    }

    private static void lotsAtFirst() {
        of("2", "LOTS: PERSONS in an order (as they came, at first).");
        same("lots", lots(new Run("r8;n0;t1;n2;t3;n4;t5;")), "012345");
        same("lots", lots(new Run("r8;n0;")), "0");
        // The first by lot gets what all want, then the second.
        same("gets", gets(new Run("r2;n0,1;n0,1;n0,1;")), "0 1 -");
    }

    private static void wouldHave() {
        of("2", "A PERSON would have the ROOMS he LIKES, the first most, and then that in which he sits (if he does, and "
            + "it is not among them: what he LIKES behind it he would not have), no other.");
        // He LIKES where he sits: first of all, between, last.
        same("own first", gets(new Run("r3;t0,0,1,2;")), "0");
        same("own between", gets(new Run("r3;t0,1,0,2;t1;")), "0 1");
        same("own last", gets(new Run("r3;t0,1,2,0;t1;")), "2 1");
        same("own last, all taken", gets(new Run("r3;t0,1,2,0;t1;t2;")), "0 1 2");
        // He sits where he does not LIKE it: it comes behind all.
        same("own behind", gets(new Run("r3;t0,1,2;t1;")), "2 1");
        same("own behind, all taken", gets(new Run("r3;t0,1,2;t1;t2;")), "0 1 2");
        same("nothing liked", gets(new Run("r3;t0;")), "0");
        // He sits nowhere: what he does not LIKE he would not have, though it is empty.
        same("no other", gets(new Run("r3;n0;n0;")), "0 -");
        // He sits nowhere now: nothing cuts his LIKES off any more.
        Run x = new Run("r3;t0,1,0,2;t1;n0;");
        x.lot(2, 0);
        same("sits", gets(x), "0 1 -");
        x.leave(0);
        same("left", gets(x), "2 1 0");
    }

    private static void allAtFirst() {
        of("2", "GIVEN OUT: all PERSONS are there, all ROOMS open at first.");
        for (int r = 0; r < 8; r++) {
            Run x = new Run("r8;n" + r + ";");
            due(x.person(0, 3), r);
            due(x.room(r, 1), 0);
            due(x.told(5), 255 - (1 << r));
        }
        for (int p = 0; p < 6; p++) {
            Run x = new Run("r1;n0;n0;n0;n0;n0;n0;");
            x.lot(p, 0);
            due(x.room(0, 1), p);
            due(x.person(p, 4), 0);
        }
        same("all six", gets(new Run("r8;n7;n6;n5;n4;n3;n2;")), "7 6 5 4 3 2");
    }

    private static void doneAtOnce() {
        of("2", "ROUND by ROUND (0 on): who would have no ROOM that is open is done, with none, at once.");
        // 1 is done ahead of the pointing of ROUND 1, so room 1 points at 2 in that ROUND.
        Run x = new Run("r2;n0;n0;n1;");
        same("gets", gets(x), "0 - 1");
        same("rounds", asked(x, 4), "0 1 1");
        // In ROUND 0, too: he sits nowhere and LIKES nothing, and is first by lot.
        x = new Run("r1;t0;n0;");
        x.leave(0);
        same("gets", gets(x), "- 0");
        same("rounds", asked(x, 4), "0 0");
        due(x.told(3), 1);
    }

    private static void pointsAtBest() {
        of("2", "Each other one POINTS at the open ROOM that he would have most.");
        Run x = new Run("r3;n2,1,0;n2,1,0;n2,1,0;");
        same("gets", gets(x), "2 1 0");
        same("rounds", asked(x, 4), "0 1 2");
        x = new Run("r8;n0,1,2,3,4,5,6,7;n0,1,2,3,4,5,6,7;n0,1,2,3,4,5,6,7;n0,1,2,3,4,5,6,7;n0,1,2,3,4,5,6,7;"
            + "n0,1,2,3,4,5,6,7;");
        same("gets", gets(x), "0 1 2 3 4 5");
        due(x.told(5), 192);
    }

    private static void roomPointsAtSitter() {
        of("2", "Each open ROOM POINTS at who sits in it, if he is there;");
        // 1 is first by lot and wants room 0, but its sitter stays.
        Run x = new Run("r2;t0;n0;n1;");
        x.lot(1, 0);
        same("gets", gets(x), "0 - 1");
        same("rounds", asked(x, 4), "0 1 1");
        // The sitter is in the ring of him who wants the room.
        x = new Run("r2;t0,1;n0;");
        x.lot(1, 0);
        same("gets", gets(x), "1 0");
        same("rings", asked(x, 5), "3 3");
    }

    private static void roomPointsAtFirst() {
        of("2", "else at the first by LOTS of those who are there.");
        Run x = new Run("r1;n0;n0;n0;");
        same("gets", gets(x), "0 - -");
        x.lot(2, 0);
        same("gets", gets(x), "- - 0");
        // The first by lot is done with none: the next one is the first of those who are there.
        x = new Run("r2;n0;n0;n1;n1;");
        x.lot(3, 2);
        same("gets", gets(x), "0 - - 1");
        // Room 0 is open though its sitter is done: he went to the empty room.
        x = new Run("r3;t0,1;n0,2;n0;");
        x.lot(2, 1);
        same("gets", gets(x), "1 2 0");
        same("rounds", asked(x, 4), "0 2 1");
    }

    private static void ringOf() {
        of("2", "A RING: PERSONS and ROOMS that POINT round to one another;");
        Run x = new Run("r1;t0;");
        due(x.person(0, 5), 1);
        x = new Run("r6;t0,1;t1,2;t2,3;t3,4;t4,5;t5,0;");
        same("all six", asked(x, 5), "63 63 63 63 63 63");
        // 2 points into the ring of 0 and 1, but nobody in it points at him.
        x = new Run("r3;t0,1;t1,0;t2,0;");
        same("rings", asked(x, 5), "3 3 4");
        same("rounds", asked(x, 4), "0 0 1");
    }

    private static void inRings() {
        of("2", "all PERSONS in RINGS get the ROOM at which they POINT, are done, and these ROOMS are open no more.");
        // Three RINGS in one ROUND.
        Run x = new Run("r6;t0,1;t1,0;t2,3;t3,2;t4,5;t5,4;");
        same("gets", gets(x), "1 0 3 2 5 4");
        same("rounds", asked(x, 4), "0 0 0 0 0 0");
        same("rings", asked(x, 5), "3 3 12 12 48 48");
        due(x.told(3), 1);
        // What a RING of ROUND 0 took is not to be had in ROUND 1, though he wants it most.
        x = new Run("r4;t0,1;t1,0;n0,1,2;");
        same("gets", gets(x), "1 0 2");
        same("rounds", asked(x, 4), "0 0 1");
        due(x.told(5), 8);
    }

    private static void ends() {
        of("2", "It ends when nobody is there (a ROUND in which all that were left were done with none counts, too).");
        due(new Run().told(3), 0);
        due(new Run("r8;").told(3), 0);
        due(new Run("r1;n0;").told(3), 1);
        due(new Run("r1;n0;n0;").told(3), 2);
        due(new Run("r1;n0;n0;n0;n0;n0;n0;").told(3), 2);
        Run x = new Run("r2;t0;t1;");
        x.leave(0);
        x.leave(1);
        due(x.told(3), 1);
        due(x.told(4), 3);
        due(new Run("r6;t0;t1,0;t2,1;t3,2;t4,3;t5,4;").told(3), 6);
        due(new Run("r8;n0;n1;n2;n3;n4;n5;").told(3), 6);
        // All that are left are done with none behind five ROUNDS with RINGS.
        due(new Run("r5;n0;n1;n2;n3;n4;n4;").told(3), 6);
    }

    private static void likesAre(Run x, int answer, int n, String due) {
        due(answer, n);
        same("likes", likes(x, 0), due);
    }

    private static void likeAt() {
        of("2", "LIKE: a ROOM becomes the k-th that a PERSON LIKES (if he LIKED it, it is struck out first; behind the "
            + "last, if there are fewer).");
        Run x = new Run("r8;t0;n7;");
        likesAre(x, x.like(0, 3, 7), 1, "3");
        likesAre(x, x.like(0, 4, 0), 2, "43");
        likesAre(x, x.like(0, 5, 2), 3, "435");
        likesAre(x, x.like(0, 6, 1), 4, "4635");
        likesAre(x, x.like(0, 7, 5), 5, "46357");
        // It is struck out first: to the end, to the front, to where it is, one on, one back.
        likesAre(x, x.like(0, 4, 7), 5, "63574");
        likesAre(x, x.like(0, 4, 0), 5, "46357");
        likesAre(x, x.like(0, 3, 2), 5, "46357");
        likesAre(x, x.like(0, 3, 3), 5, "46537");
        likesAre(x, x.like(0, 5, 1), 5, "45637");
        likesAre(x, x.like(0, 4, 4), 5, "56374");
        likesAre(x, x.like(0, 4, 5), 5, "56374");
        likesAre(x, x.like(0, 0, 5), 6, "563740");
        likesAre(x, x.like(0, 1, 6), 7, "5637401");
        likesAre(x, x.like(0, 2, 7), 8, "56374012");
        likesAre(x, x.like(0, 5, 7), 8, "63740125");
        likesAre(x, x.like(0, 5, 0), 8, "56374012");
        likesAre(x, x.like(0, 2, 6), 8, "56374021");
        same("the other's likes", likes(x, 1), "7");
    }

    private static void strikeOut() {
        of("2", "STRIKE: he LIKES it no more.");
        Run x = new Run("r8;n0,1,2,3,4,5,6,7;n0;");
        likesAre(x, x.strike(0, 0), 7, "1234567");
        likesAre(x, x.strike(0, 7), 6, "123456");
        likesAre(x, x.strike(0, 3), 5, "12456");
        x.strike(0, 2);
        x.strike(0, 4);
        x.strike(0, 1);
        likesAre(x, x.strike(0, 5), 1, "6");
        likesAre(x, x.strike(0, 6), 0, "");
        same("the other's likes", likes(x, 1), "0");
        due(x.person(0, 3), NONE);
    }

    private static void lotTo() {
        of("2", "LOT: a PERSON's place in LOTS becomes another, others keep their order.");
        for (int p = 0; p < 6; p++) {
            for (int place = 0; place < 6; place++) {
                Run x = new Run("r1;n0;n0;n0;n0;n0;n0;");
                due(x.lot(p, place), p);
                StringBuilder due = new StringBuilder("012345").deleteCharAt(p).insert(place, p);
                same("lots", lots(x), due.toString());
                due(x.room(0, 1), due.charAt(0) - '0');
            }
        }
        Run x = new Run("r1;n0;");
        due(x.lot(0, 0), 0);
        same("lots of one", lots(x), "0");
    }

    private static void refusedRoom() {
        of("2", "REFUSED: he strikes out what he would get now, if it is not where he sits.");
        Run x = new Run("r4;n0,1,2;t0;t3,2,3;");
        likesAre(x, x.refuse(0), 2, "02");
        likesAre(x, x.refuse(0), NONE, "0");
        due(x.refuse(0), NOT);
        same("likes", likes(x, 0), "0");
        due(x.refuse(1), NOT);
        due(x.refuse(2), 3);
        same("where he sits is LIKED yet", likes(x, 2), "3");
        due(x.refuse(2), NOT);
        same("where he sits is LIKED yet", likes(x, 2), "3");
    }

    private static void movedAll() {
        of("2", "MOVED: all who get a ROOM sit there now, all others nowhere.");
        Run x = new Run("r4;t0,1;t1,2;n0;n0;");
        same("gets", gets(x), "1 2 0 -");
        due(x.moved(), 3);
        same("seats", asked(x, 0), "1 2 0 -");
        due(x.room(3, 0), NONE);
        due(x.told(6), 8);
        // A ring: nobody is left without a room when rooms change hands.
        x = new Run("r6;t0,1;t1,2;t2,3;t3,4;t4,5;t5,0;");
        due(x.moved(), 6);
        same("seats", asked(x, 0), "1 2 3 4 5 0");
        // LIKES and LOTS stay.
        same("all", section2(x), "1@0:1 2@1:2 3@2:3 4@3:4 5@4:5 0@5:0 ");
    }

    private static void leaves() {
        of("2", "LEAVES: a PERSON sits nowhere.");
        Run x = new Run("r2;t0,1;t1;");
        due(x.leave(0), 0);
        same("all", section2(x), "-1@0:1 1@1: ");
        due(x.room(0, 0), NONE);
        due(x.leave(1), 1);
        due(x.told(6), 3);
        same("gets", gets(x), "1 -");
    }
}
