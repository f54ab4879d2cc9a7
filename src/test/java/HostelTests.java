/** Promises 1 to 8: the new object, the text and its faults, what is told of house, persons and rooms. */
public final class HostelTests {
    private static final String SIX = "r5;t0,1,2;t1,2,0;t2,0;n3,1;n4,3;n3,4,0;";

    private HostelTests() {
    }

    public static void main(String[] args) {
        constants();
        newObject();
        feed();
        hostelReads();
        hostelForgets();
        faults();
        faultLeavesAllAsItWas();
        told();
        toldEdges();
        person();
        rings();
        byLot();
        groups();
        likes();
        room();
        Checks.end();
    }

    private static void constants() {
        Checks.due("NONE", RoomRings.NONE, -1);
        Checks.due("UNKNOWN", RoomRings.UNKNOWN, -1000000001);
        Checks.due("OUTSIDE", RoomRings.OUTSIDE, -1000000002);
        Checks.due("NOT", RoomRings.NOT, -1000000003);
        Checks.due("FULL", RoomRings.FULL, -1000000004);
    }

    private static void newObject() {
        Run x = new Run();
        int[] due = {0, 0, 0, 0, 0, 0, 0, -1, 0, 0, 0, 0};
        for (int what = 0; what < due.length; what++) {
            Checks.due("new: told(" + what + ")", x.told(what), due[what]);
        }
        Checks.due("new: fault()", x.fault(), -1);
        Checks.due("new: person(0, 0)", x.person(0, 0), Checks.UNKNOWN);
        Checks.due("new: room(0, 0)", x.room(0, 0), Checks.UNKNOWN);
        Checks.due("new: likes(0, 0)", x.likes(0, 0), Checks.UNKNOWN);
        Checks.due("new: couldBe()", x.couldBe(), 0);
        Checks.due("new: ask()", x.ask(), -1);
        Checks.due("new: judge()", x.judge(), -1);
        Checks.due("new: seed(0)", x.seed(0), 0);
        Checks.due("new: goBack(0)", x.goBack(0), Checks.NOT);
    }

    private static void feed() {
        Run x = new Run();
        Checks.due("feed(0)", x.feed(0), 1);
        Checks.due("feed(255)", x.feed(255), 2);
        Checks.due("feed(-1)", x.feed(-1), Checks.OUTSIDE);
        Checks.due("feed(256)", x.feed(256), Checks.OUTSIDE);
        Checks.due("told(2) after refusals", x.told(2), 2);
        x.hostel();
        Checks.feed(x, "r3;");
        for (int i = 4; i <= 240; i++) {
            Checks.due("feed number " + i, x.feed(' '), i);
        }
        Checks.due("feed number 241", x.feed('x'), Checks.FULL);
        Checks.due("full: feed(-1)", x.feed(-1), Checks.OUTSIDE);
        Checks.due("full: feed(256)", x.feed(256), Checks.OUTSIDE);
        Checks.due("full: told(2)", x.told(2), 240);
        Checks.due("full: hostel()", x.hostel(), 0);
        Checks.due("full: told(0)", x.told(0), 3);
        Checks.due("full: told(2) then", x.told(2), 0);
        Checks.due("feed after hostel()", x.feed('r'), 1);
    }

    private static void reads(String text, int persons, int rooms, String due) {
        Run x = new Run();
        Checks.feed(x, text);
        Checks.due("'" + text + "': hostel()", x.hostel(), persons);
        Checks.due("'" + text + "': fault()", x.fault(), -1);
        Checks.due("'" + text + "': told(0)", x.told(0), rooms);
        Checks.due("'" + text + "': told(1)", x.told(1), persons);
        Checks.due("'" + text + "': told(2)", x.told(2), 0);
        Checks.same("'" + text + "'", Checks.section2(x), due);
    }

    private static void hostelReads() {
        reads("", 0, 0, "");
        reads("   ", 0, 0, "");
        reads("r1;", 0, 1, "");
        reads("r8;", 0, 8, "");
        reads("r008;n007;", 1, 8, "-1@0:7 ");
        reads("r3;t2;n1,0;t0,0,2,1;", 3, 3, "2@0: -1@1:10 0@2:021 ");
        reads("  r  3 ; t 2 ,  1 ; n 1 , 0 ;  ", 2, 3, "2@0:1 -1@1:10 ");
        reads("r8;t7,7,6,5,4,3,2,1,0;n0,1,2,3,4,5,6,7;", 2, 8, "7@0:76543210 -1@1:01234567 ");
        reads(SIX, 6, 5, "0@0:12 1@1:20 2@2:0 -1@3:31 -1@4:43 -1@5:340 ");
    }

    private static void hostelForgets() {
        for (String text : new String[] {"", "r2;n1;", SIX}) {
            Run x = Checks.house(SIX);
            x.seed(77);
            x.see(1, true);
            x.write(0, 1);
            x.keep(0);
            x.keep(1);
            x.lot(3, 0);
            Checks.due("told(11) ahead of hostel()", x.told(11), 1);
            Checks.feed(x, text);
            x.hostel();
            Checks.due("told(9) after hostel()", x.told(9), 0);
            Checks.due("told(10) after hostel()", x.told(10), 0);
            Checks.due("told(11) after hostel()", x.told(11), 0);
            Checks.due("undo(1) after hostel()", x.undo(1), Checks.NOT);
            Checks.due("goBack(0) after hostel()", x.goBack(0), Checks.NOT);
            Checks.due("goBack(1) after hostel()", x.goBack(1), Checks.NOT);
            Checks.due("seed after hostel()", x.seed(0), 77);
        }
        Run x = Checks.house(SIX);
        x.lot(5, 0);
        Checks.feed(x, SIX);
        Checks.due("hostel() again", x.hostel(), 6);
        Checks.due("lots as they came", x.person(5, 2), 5);
        Checks.due("hostel() of no text", x.hostel(), 0);
        Checks.due("no hostel: told(0)", x.told(0), 0);
        Checks.due("no hostel: person(0, 0)", x.person(0, 0), Checks.UNKNOWN);
    }

    private static void faulty(String text, int number, int where) {
        Run x = new Run();
        Checks.feed(x, text);
        Checks.due("'" + text + "': hostel()", x.hostel(), -10 - number);
        Checks.due("'" + text + "': fault()", x.fault(), where);
        Checks.due("'" + text + "': told(0)", x.told(0), 0);
        Checks.due("'" + text + "': told(2)", x.told(2), 0);
        Checks.due("then hostel()", x.hostel(), 0);
        Checks.due("then fault()", x.fault(), -1);
    }

    private static void faults() {
        // 1: it cannot stand there, the end among it
        faulty("x", 1, 0);
        faulty("  n0;", 1, 2);
        faulty(";", 1, 0);
        faulty("3", 1, 0);
        faulty("r", 1, 1);
        faulty("r ", 1, 2);
        faulty("r3", 1, 2);
        faulty("r3,", 1, 2);
        faulty("r3 4;", 1, 3);
        faulty("rr3;", 1, 1);
        faulty("r3;;", 1, 3);
        faulty("r3;R", 1, 3);
        faulty("r3;5", 1, 3);
        faulty("r3;" + (char) 9, 1, 3);
        faulty("r3;" + (char) 0, 1, 3);
        faulty("r3;t", 1, 4);
        faulty("r3;t;", 1, 4);
        faulty("r3;tr", 1, 4);
        faulty("r3;t,1;", 1, 4);
        faulty("r3;t0", 1, 5);
        faulty("r3;t0 ", 1, 6);
        faulty("r3;t0 1;", 1, 6);
        faulty("r3;t0,", 1, 6);
        faulty("r3;t0,;", 1, 6);
        faulty("r3;t0,,1;", 1, 6);
        faulty("r3;t0n1;", 1, 5);
        faulty("r3;n;", 1, 4);
        faulty("r3;n,0;", 1, 4);
        faulty("r3;n0,1", 1, 7);
        faulty("r3;n0r3;", 1, 5);
        faulty("r3;nr", 1, 4);
        faulty("r3;n0;n1;n2;n0;n1;n2,n", 1, 21);
        // 2: numbers, at their first
        faulty("r0;", 2, 1);
        faulty("r9;", 2, 1);
        faulty("r  9 x", 2, 3);
        faulty("r9", 2, 1);
        faulty("r10;", 2, 1);
        faulty("r999;", 2, 1);
        faulty("r0001;", 2, 1);
        faulty("r11111111111111111111;", 2, 1);
        faulty("r3;t3;", 2, 4);
        faulty("r3;t0,3;", 2, 6);
        faulty("r3;n3;", 2, 4);
        faulty("r3;n 0 , 1 ,12;", 2, 12);
        faulty("r3;n0000;", 2, 4);
        faulty("r3;n0,0000;", 2, 6);
        faulty("r3;t0;t0000;", 2, 7);
        faulty("r8;n8", 2, 4);
        // 3: once more, one too many, at the word
        faulty("r3;r3;", 3, 3);
        faulty("r3;r", 3, 3);
        faulty("r3; r x", 3, 4);
        faulty("r3;n0;r3;", 3, 6);
        faulty("r3;n0;n0;n0;n0;n0;n0;n0;", 3, 21);
        faulty("r3;n0;n0;n0;n0;n0;n0;t9;", 3, 21);
        faulty("r3;n0;n0;n0;n0;n0;n0; r", 3, 22);
        faulty("r3;n0;n0;n0;n0;n0;n0;x", 1, 21);
        // 4: taken or liked already, at its first
        faulty("r3;t1;t1;", 4, 7);
        faulty("r3;t1;n0;t 001", 4, 11);
        faulty("r3;n1,1;", 4, 6);
        faulty("r3;n1,2,1", 4, 8);
        faulty("r3;t0,0,0;", 4, 8);
        faulty("r3;t0,1,2,1x", 4, 10);
        faulty("r8;n0,1,2,3,4,5,6,7,0;", 4, 20);
        faulty("r8;n0,1,2,3,4,5,6,7,8;", 2, 20);
        faulty("r8;t0,0,1,2,3,4,5,6,7,7", 4, 22);
        faulty("r8;t0,0,1,2,3,4,5,6,7,", 1, 22);
    }

    private static void faultLeavesAllAsItWas() {
        Run x = Checks.house(SIX);
        x.seed(5);
        x.keep(1);
        x.lot(3, 0);
        x.see(1, false);
        x.write(2, 0);
        String before = Checks.all(x);
        Checks.feed(x, "r2;n0;n0,0;");
        Checks.due("hostel() with a fault", x.hostel(), -14);
        Checks.due("fault()", x.fault(), 9);
        Checks.same("all after a fault", Checks.all(x), before);
        Checks.due("undo(1) after a fault", x.undo(1), 0);
        Checks.due("place after that", x.person(3, 2), 3);
        Checks.due("goBack(1) after a fault", x.goBack(1), 1);
        Checks.due("fault() stays", x.fault(), 9);
        Checks.feed(x, "r2;");
        Checks.due("fault() until the next hostel()", x.fault(), 9);
        x.hostel();
        Checks.due("fault() then", x.fault(), -1);
    }

    private static void told() {
        Run x = Checks.house(SIX);
        x.feed('r');
        int[] due = {5, 6, 1, 4, 32, 0, 24, 3, 3, 0, 0, 0};
        for (int what = 0; what < due.length; what++) {
            Checks.due("told(" + what + ")", x.told(what), due[what]);
        }
        Checks.due("told(-1)", x.told(-1), Checks.OUTSIDE);
        Checks.due("told(12)", x.told(12), Checks.OUTSIDE);
        Checks.due("told(least)", x.told(Integer.MIN_VALUE), Checks.OUTSIDE);
        x.see(0, true);
        x.see(0, false);
        x.write(0, 0);
        x.lot(0, 0);
        x.lot(0, 0);
        x.lot(0, 0);
        Checks.due("told(9)", x.told(9), 2);
        Checks.due("told(10)", x.told(10), 1);
        Checks.due("told(11)", x.told(11), 3);
    }

    private static void toldEdges() {
        Run x = Checks.house("r8;");
        Checks.due("no persons: told(3)", x.told(3), 0);
        Checks.due("no persons: told(4)", x.told(4), 0);
        Checks.due("no persons: told(5)", x.told(5), 255);
        Checks.due("no persons: told(6)", x.told(6), 255);
        Checks.due("no persons: told(7)", x.told(7), -1);
        Checks.due("no persons: told(8)", x.told(8), 0);
        // The last round may be one in which all were done with none.
        x = Checks.house("r1;n0;n0;n0;");
        Checks.due("one room: told(3)", x.told(3), 2);
        Checks.due("one room: told(4)", x.told(4), 6);
        Checks.due("one room: told(5)", x.told(5), 0);
        x = Checks.house("r2;t0;");
        x.leave(0);
        Checks.due("nothing liked: told(3)", x.told(3), 1);
        Checks.due("nothing liked: told(4)", x.told(4), 1);
        Checks.due("nothing liked: told(5)", x.told(5), 3);
        Checks.due("nothing liked: told(6)", x.told(6), 3);
        // One ring after the other, each opened by the one ahead of it.
        x = Checks.house("r6;t0;t1,0;t2,1,0;t3,2,1,0;t4,3;t5,4;");
        Checks.due("a row of six: told(3)", x.told(3), 6);
        Checks.due("a row of six: told(4)", x.told(4), 0);
    }

    private static void person() {
        Run x = Checks.house(SIX);
        int[][] due = {
            {0, 2, 0, 1, 0, 7, 0, 0}, {1, 2, 1, 2, 0, 7, 1, 0}, {2, 1, 2, 0, 0, 7, 2, 0},
            {-1, 2, 3, 3, 1, 8, 3, 0}, {-1, 2, 4, 4, 2, 16, 4, 0}, {-1, 3, 5, -1, 3, 32, -1, 3}};
        for (int p = 0; p < due.length; p++) {
            for (int what = 0; what < due[p].length; what++) {
                Checks.due("person(" + p + ", " + what + ")", x.person(p, what), due[p][what]);
            }
            Checks.due("person(" + p + ", -1)", x.person(p, -1), Checks.OUTSIDE);
            Checks.due("person(" + p + ", 8)", x.person(p, 8), Checks.OUTSIDE);
        }
        Checks.due("person(-1, 0)", x.person(-1, 0), Checks.UNKNOWN);
        Checks.due("person(6, 0)", x.person(6, 0), Checks.UNKNOWN);
        Checks.due("person(6, 8): UNKNOWN first", x.person(6, 8), Checks.UNKNOWN);
        Checks.due("person(-1, -1): UNKNOWN first", x.person(-1, -1), Checks.UNKNOWN);
    }

    private static void outcome(Run x, String what, int p, int gets, int round, int ring) {
        Checks.due(what + ": person(" + p + ", 3)", x.person(p, 3), gets);
        Checks.due(what + ": person(" + p + ", 4)", x.person(p, 4), round);
        Checks.due(what + ": person(" + p + ", 5)", x.person(p, 5), ring);
    }

    private static void rings() {
        // The empty room points at the first by lot, and he goes through it alone.
        Run x = Checks.house("r2;t0,1;n0;");
        outcome(x, "first sits", 0, 1, 0, 1);
        outcome(x, "first sits", 1, 0, 1, 2);
        // The newcomer is first: the empty room brings him into the sitter's ring.
        x.lot(1, 0);
        outcome(x, "first is new", 0, 1, 0, 3);
        outcome(x, "first is new", 1, 0, 0, 3);
        // Two rings in one round.
        x = Checks.house("r4;t0,1;t1,0;t2,3;t3,2;");
        outcome(x, "two rings", 0, 1, 0, 3);
        outcome(x, "two rings", 1, 0, 0, 3);
        outcome(x, "two rings", 2, 3, 0, 12);
        outcome(x, "two rings", 3, 2, 0, 12);
        // One ring of all six.
        x = Checks.house("r6;t0,1;t1,2;t2,3;t3,4;t4,5;t5,0;");
        for (int p = 0; p < 6; p++) {
            outcome(x, "six round", p, (p + 1) % 6, 0, 63);
        }
        // What he likes behind the room in which he sits he would not have.
        x = Checks.house("r3;t0,1,0,2;t1;");
        outcome(x, "own room liked", 0, 0, 1, 1);
        Checks.due("own room liked: better", x.person(0, 7), 1);
        outcome(x, "nothing liked", 1, 1, 0, 2);
        Checks.due("nothing liked: better", x.person(1, 7), 0);
        // Who finds no open room is gone before rooms point: room 1 takes the next one at once.
        x = Checks.house("r2;n0;n0;n1;");
        outcome(x, "at once", 0, 0, 0, 1);
        outcome(x, "at once", 1, -1, 1, 2);
        outcome(x, "at once", 2, 1, 1, 4);
        Checks.due("at once: better", x.person(1, 7), 1);
        // A room whose sitter is done points at the first by lot of those who are there.
        x = Checks.house("r3;t0,1;n0,2;n0;");
        x.lot(2, 1);
        outcome(x, "left by its sitter", 0, 1, 0, 1);
        outcome(x, "left by its sitter", 2, 0, 1, 4);
        outcome(x, "left by its sitter", 1, 2, 2, 2);
    }

    private static void byLot() {
        // The room of one who did not choose yet is not to be had; that of one who chose is.
        Run x = Checks.house("r2;t0,1;n0;");
        Checks.due("by lot: person(0, 6)", x.person(0, 6), 1);
        Checks.due("by lot: person(1, 6)", x.person(1, 6), 0);
        x.lot(1, 0);
        Checks.due("by lot, changed: person(0, 6)", x.person(0, 6), 1);
        Checks.due("by lot, changed: person(1, 6)", x.person(1, 6), -1);
        x = Checks.house("r3;t0,1;t1,2;n2,0,1;");
        Checks.due("by lot: sitter before", x.person(0, 6), 0);
        Checks.due("by lot: sitter", x.person(1, 6), 2);
        Checks.due("by lot: newcomer", x.person(2, 6), 1);
    }

    private static void group(String text, int least, int count) {
        Run x = Checks.house(text);
        Checks.due("'" + text + "': told(7)", x.told(7), least);
        Checks.due("'" + text + "': told(8)", x.told(8), count);
    }

    private static void groups() {
        group("r4;t0,1;t1,0;t2,3;t3,2;", 3, 7);
        group("r3;t0,1;t1,2;t2,0;", 7, 1);
        group("r3;t0,1;t1,0;t2;", 3, 2);
        group("r3;t0,1,2;t1,2,0;t2,0,1;", 3, 4);
        // The fewest come before the least number: the ring of three has the lower number.
        group("r5;t0,1;t1,2;t2,0;t3,4;t4,3;", 24, 11);
        // A ring through an empty room, or through one whom he would not change with, is none.
        group("r3;t0,1;t1,2;", -1, 0);
        group("r2;t0,0,1;t1,0;", -1, 0);
        group("r2;n0,1;n1,0;", -1, 0);
        group("r2;t0;", -1, 0);
        group("r3;n2,0;t0,1;t1,0;", 6, 1);
        group("r6;t0,1;t1,2;t2,3;t3,4;t4,5;t5;", -1, 0);
        group("r6;t0,1;t1,2;t2,3;t3,4;t4,5;t5,0;", 63, 1);
        // As they sit now.
        Run x = Checks.house("r2;t0,1;t1,0;");
        x.moved();
        Checks.due("moved: told(7)", x.told(7), -1);
        x = Checks.house("r2;t0,1;t1,0;");
        x.leave(1);
        Checks.due("left: told(8)", x.told(8), 0);
    }

    private static void likes() {
        Run x = Checks.house("r8;n7,6,5,4,3,2,1,0;t3;");
        for (int k = 0; k < 8; k++) {
            Checks.due("likes(0, " + k + ")", x.likes(0, k), 7 - k);
        }
        Checks.due("likes(0, 8)", x.likes(0, 8), -1);
        Checks.due("likes(0, greatest)", x.likes(0, Integer.MAX_VALUE), -1);
        Checks.due("likes(0, -1)", x.likes(0, -1), -1);
        Checks.due("likes(1, 0)", x.likes(1, 0), -1);
        Checks.due("likes(2, 0)", x.likes(2, 0), Checks.UNKNOWN);
        Checks.due("likes(-1, 0)", x.likes(-1, 0), Checks.UNKNOWN);
        x.strike(0, 4);
        Checks.due("struck: likes(0, 3)", x.likes(0, 3), 3);
        Checks.due("struck: likes(0, 7)", x.likes(0, 7), -1);
    }

    private static void room() {
        Run x = Checks.house("r4;t2,1;t1;n3,2;");
        int[][] due = {{-1, -1}, {1, 1}, {0, 0}, {-1, 2}};
        for (int r = 0; r < due.length; r++) {
            Checks.due("room(" + r + ", 0)", x.room(r, 0), due[r][0]);
            Checks.due("room(" + r + ", 1)", x.room(r, 1), due[r][1]);
            Checks.due("room(" + r + ", 2)", x.room(r, 2), Checks.OUTSIDE);
            Checks.due("room(" + r + ", -1)", x.room(r, -1), Checks.OUTSIDE);
        }
        Checks.due("room(4, 0)", x.room(4, 0), Checks.UNKNOWN);
        Checks.due("room(-1, 0)", x.room(-1, 0), Checks.UNKNOWN);
        Checks.due("room(4, 2): UNKNOWN first", x.room(4, 2), Checks.UNKNOWN);
        x.lot(2, 0);
        x.like(2, 2, 0);
        x.like(0, 3, 0);
        // The newcomer is first now: 2 -> room 2 -> 0 -> room 3, which is empty -> 2.
        Checks.due("ring: room(2, 1)", x.room(2, 1), 2);
        Checks.due("ring: room(3, 1)", x.room(3, 1), 0);
    }
}
