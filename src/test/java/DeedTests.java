/** Promises 9 to 16: likes put in and struck out, lots, rooms refused, all moved, left, by draws, undone. */
public final class DeedTests {
    private static final String SIX = "r5;t0,1,2;t1,2,0;t2,0;n3,1;n4,3;n3,4,0;";

    private DeedTests() {
    }

    public static void main(String[] args) {
        like();
        likeRefused();
        strike();
        lot();
        refuse();
        moved();
        leave();
        driftRefused();
        driftIsDeedByDeed();
        driftKinds();
        undo();
        undoOfEachDeed();
        undoTwenty();
        Checks.end();
    }

    private static void like() {
        Run x = Checks.house("r8;t0;n1;");
        Checks.due("like(0, 3, 7): behind the last", x.like(0, 3, 7), 1);
        Checks.same("likes", Checks.likes(x, 0), "3");
        Checks.due("like(0, 4, 0)", x.like(0, 4, 0), 2);
        Checks.same("likes", Checks.likes(x, 0), "43");
        Checks.due("like(0, 5, 1)", x.like(0, 5, 1), 3);
        Checks.same("likes", Checks.likes(x, 0), "453");
        Checks.due("like(0, 0, 3): where he sits", x.like(0, 0, 3), 4);
        Checks.same("likes", Checks.likes(x, 0), "4530");
        Checks.due("like(0, 4, 2): struck out first", x.like(0, 4, 2), 4);
        Checks.same("likes", Checks.likes(x, 0), "5340");
        Checks.due("like(0, 4, 2): as it was", x.like(0, 4, 2), 4);
        Checks.same("likes", Checks.likes(x, 0), "5340");
        Checks.due("like(0, 5, 3): behind the last", x.like(0, 5, 3), 4);
        Checks.same("likes", Checks.likes(x, 0), "3405");
        Checks.due("like(0, 5, 0)", x.like(0, 5, 0), 4);
        Checks.same("likes", Checks.likes(x, 0), "5340");
        Checks.same("the other's likes", Checks.likes(x, 1), "1");
        Checks.due("told(11)", x.told(11), 8);
        for (int r = 0; r < 8; r++) {
            x.like(1, r, 0);
        }
        Checks.same("all eight", Checks.likes(x, 1), "76543210");
        Checks.due("like(1, 0, 7) of eight", x.like(1, 0, 7), 8);
        Checks.due("like(1, 7, 7) of eight", x.like(1, 7, 7), 8);
        Checks.same("all eight", Checks.likes(x, 1), "65432107");
        Checks.same("the first's likes", Checks.likes(x, 0), "5340");
        Checks.due("he gets what he likes", x.person(1, 3), 6);
    }

    private static void likeRefused() {
        Run x = Checks.house("r3;t0,1;n1;");
        String before = Checks.all(x);
        Checks.due("like(2, 0, 0)", x.like(2, 0, 0), Checks.UNKNOWN);
        Checks.due("like(-1, 0, 0)", x.like(-1, 0, 0), Checks.UNKNOWN);
        Checks.due("like(0, 3, 0)", x.like(0, 3, 0), Checks.UNKNOWN);
        Checks.due("like(0, -1, 0)", x.like(0, -1, 0), Checks.UNKNOWN);
        Checks.due("like(0, 0, -1)", x.like(0, 0, -1), Checks.OUTSIDE);
        Checks.due("like(0, 0, 8)", x.like(0, 0, 8), Checks.OUTSIDE);
        Checks.due("like(2, 0, 8): UNKNOWN first", x.like(2, 0, 8), Checks.UNKNOWN);
        Checks.due("like(0, 3, 8): UNKNOWN first", x.like(0, 3, 8), Checks.UNKNOWN);
        Checks.same("nothing changed", Checks.all(x), before);
    }

    private static void strike() {
        Run x = Checks.house("r4;t0,1,2,3;n1;");
        Checks.due("strike(0, 2)", x.strike(0, 2), 2);
        Checks.same("likes", Checks.likes(x, 0), "13");
        Checks.due("strike(0, 3)", x.strike(0, 3), 1);
        Checks.due("strike(0, 1)", x.strike(0, 1), 0);
        Checks.same("likes", Checks.likes(x, 0), "");
        Checks.due("he gets where he sits", x.person(0, 3), 0);
        Checks.due("strike(1, 1)", x.strike(1, 1), 0);
        Checks.due("he gets none", x.person(1, 3), -1);
        String before = Checks.all(x);
        Checks.due("strike(0, 1) again", x.strike(0, 1), Checks.NOT);
        Checks.due("strike(0, 0): sits, likes not", x.strike(0, 0), Checks.NOT);
        Checks.due("strike(0, 4)", x.strike(0, 4), Checks.UNKNOWN);
        Checks.due("strike(0, -1)", x.strike(0, -1), Checks.UNKNOWN);
        Checks.due("strike(2, 1)", x.strike(2, 1), Checks.UNKNOWN);
        Checks.due("strike(-1, 1)", x.strike(-1, 1), Checks.UNKNOWN);
        Checks.same("nothing changed", Checks.all(x), before);
        Checks.due("told(11)", x.told(11), 4);
    }

    private static void lot() {
        Run x = Checks.house("r1;n0;n0;n0;n0;n0;n0;");
        Checks.same("lots", Checks.lots(x), "012345");
        Checks.due("lot(4, 1)", x.lot(4, 1), 4);
        Checks.same("lots", Checks.lots(x), "041235");
        Checks.due("lot(0, 5)", x.lot(0, 5), 0);
        Checks.same("lots", Checks.lots(x), "412350");
        Checks.due("lot(2, 2): as it was", x.lot(2, 2), 2);
        Checks.same("lots", Checks.lots(x), "412350");
        Checks.due("lot(0, 0)", x.lot(0, 0), 5);
        Checks.same("lots", Checks.lots(x), "041235");
        Checks.due("lot(1, 4)", x.lot(1, 4), 2);
        Checks.same("lots", Checks.lots(x), "042315");
        Checks.due("the first gets it", x.room(0, 1), 0);
        x.lot(5, 0);
        Checks.due("the first gets it", x.room(0, 1), 5);
        String before = Checks.all(x);
        Checks.due("lot(0, -1)", x.lot(0, -1), Checks.OUTSIDE);
        Checks.due("lot(0, 6)", x.lot(0, 6), Checks.OUTSIDE);
        Checks.due("lot(6, 0)", x.lot(6, 0), Checks.UNKNOWN);
        Checks.due("lot(-1, 0)", x.lot(-1, 0), Checks.UNKNOWN);
        Checks.due("lot(6, 6): UNKNOWN first", x.lot(6, 6), Checks.UNKNOWN);
        Checks.same("nothing changed", Checks.all(x), before);
        Checks.due("told(11)", x.told(11), 6);
    }

    private static void refuse() {
        Run x = Checks.house(SIX);
        Checks.due("refuse(0)", x.refuse(0), 2);
        Checks.same("likes", Checks.likes(x, 0), "2");
        Checks.due("refuse(0) again", x.refuse(0), 0);
        Checks.same("likes", Checks.likes(x, 0), "");
        Checks.due("told(11)", x.told(11), 2);
        String before = Checks.all(x);
        Checks.due("refuse(0): he gets where he sits", x.refuse(0), Checks.NOT);
        Checks.due("refuse(5): he gets none", x.refuse(5), Checks.NOT);
        Checks.due("refuse(6)", x.refuse(6), Checks.UNKNOWN);
        Checks.due("refuse(-1)", x.refuse(-1), Checks.UNKNOWN);
        Checks.same("nothing changed", Checks.all(x), before);
        x = Checks.house("r2;n1;t0,0;");
        Checks.due("refuse: then none", x.refuse(0), -1);
        Checks.due("refuse: NOT then", x.refuse(0), Checks.NOT);
        Checks.due("refuse where he sits, though he likes it", x.refuse(1), Checks.NOT);
        Checks.due("he likes it yet", x.person(1, 1), 1);
    }

    private static void moved() {
        Run x = Checks.house(SIX);
        Checks.due("moved(): three swap, two come in", x.moved(), 5);
        Checks.same("seats", Checks.section2(x), "1@0:12 2@1:20 0@2:0 3@3:31 4@4:43 -1@5:340 ");
        Checks.due("moved() again", x.moved(), 0);
        Checks.due("told(11)", x.told(11), 2);
        Checks.due("told(6)", x.told(6), 0);
        // He who is done with none sits nowhere; a room given up is empty then.
        x = Checks.house("r3;t0,1;");
        Checks.due("moved(): one", x.moved(), 1);
        Checks.due("room(0, 0)", x.room(0, 0), -1);
        Checks.due("room(1, 0)", x.room(1, 0), 0);
        x = Checks.house("r1;t0;n0;");
        x.leave(0);
        Checks.due("moved(): the newcomer", x.moved(), 1);
        Checks.due("he sits", x.person(1, 0), 0);
        Checks.due("moved() without persons", new Run().moved(), Checks.NOT);
        x = Checks.house("r3;");
        Checks.due("moved() with rooms alone", x.moved(), Checks.NOT);
        Checks.due("told(11)", x.told(11), 0);
    }

    private static void leave() {
        Run x = Checks.house("r3;t2,1;t0;n2;");
        Checks.due("leave(0)", x.leave(0), 2);
        Checks.due("person(0, 0)", x.person(0, 0), -1);
        Checks.due("room(2, 0)", x.room(2, 0), -1);
        Checks.due("leave(1): room 0", x.leave(1), 0);
        Checks.due("told(6)", x.told(6), 7);
        Checks.due("told(11)", x.told(11), 2);
        String before = Checks.all(x);
        Checks.due("leave(0) again", x.leave(0), Checks.NOT);
        Checks.due("leave(2)", x.leave(2), Checks.NOT);
        Checks.due("leave(3)", x.leave(3), Checks.UNKNOWN);
        Checks.due("leave(-1)", x.leave(-1), Checks.UNKNOWN);
        Checks.same("nothing changed", Checks.all(x), before);
    }

    private static void driftRefused() {
        Run x = new Run();
        Checks.due("no hostel: drift(1)", x.drift(1), Checks.NOT);
        Checks.due("no hostel: drift(0): OUTSIDE first", x.drift(0), Checks.OUTSIDE);
        Checks.due("no hostel: drift(21): OUTSIDE first", x.drift(21), Checks.OUTSIDE);
        Checks.due("no draw was made", x.seed(0), 0);
        x = Checks.house("r3;");
        x.seed(9);
        Checks.due("no persons: drift(20)", x.drift(20), 3);
        Checks.due("no draw was made", x.seed(0), 9);
        Checks.due("no deed was done", x.told(11), 0);
        x = Checks.house("r3;n0;");
        x.drift(1);
        Checks.due("one person: a deed was done", x.told(11), 1);
        x = Checks.house(SIX);
        String before = Checks.all(x);
        Checks.due("drift(0)", x.drift(0), Checks.OUTSIDE);
        Checks.due("drift(-1)", x.drift(-1), Checks.OUTSIDE);
        Checks.due("drift(21)", x.drift(21), Checks.OUTSIDE);
        Checks.same("nothing changed", Checks.all(x), before);
        Checks.due("no draw was made", x.seed(0), 0);
    }

    private static long state;

    private static int draw(int n) {
        state = (state * 1103515245L + 12345L) % 2147483648L;
        return (int) (state / 65536 % n);
    }

    /** What drift(1) does is done by the plain calls to the other object: the kind that was drawn. */
    private static int plain(Run y) {
        int kind = draw(4);
        int p = draw(y.told(1));
        if (kind == 0) {
            int r = draw(y.told(0));
            y.like(p, r, draw(8));
        } else if (kind == 1) {
            y.strike(p, draw(y.told(0)));
        } else if (kind == 2) {
            y.lot(p, draw(y.told(1)));
        } else {
            y.moved();
        }
        return kind;
    }

    private static void driftIsDeedByDeed() {
        int[] seeds = {0, 1, 137, 65535, 2147483647, 1234567890};
        for (int seed : seeds) {
            for (int n = 1; n <= 20; n++) {
                Run x = Checks.house(SIX);
                Run y = Checks.house(SIX);
                x.seed(seed);
                state = seed;
                for (int i = 0; i < n; i++) {
                    plain(y);
                }
                Checks.due("drift(" + n + ")", x.drift(n), Integer.bitCount(y.told(6)));
                Checks.same("after drift(" + n + ")", Checks.section2(x), Checks.section2(y));
                Checks.due("the seed then", x.seed(0), state);
                Checks.due("told(11) then", x.told(11), n);
            }
        }
    }

    private static void driftKinds() {
        int kinds = 0;
        for (int seed = 0; seed < 400; seed++) {
            Run x = Checks.house("r7;t0,1,2;t1,2,0;n3,1;");
            Run y = Checks.house("r7;t0,1,2;t1,2,0;n3,1;");
            String before = Checks.section2(x);
            x.seed(seed * 65537 * 3);
            state = seed * 65537L * 3;
            int kind = plain(y);
            kinds |= 1 << kind;
            x.drift(1);
            Checks.same("drift(1) of kind " + kind, Checks.section2(x), Checks.section2(y));
            Checks.due("one time is one deed, a strike of nothing too", x.told(11), 1);
            Checks.due("undo(1)", x.undo(1), 0);
            Checks.same("undone", Checks.section2(x), before);
            Checks.due("the seed stays", x.seed(0), state);
        }
        Checks.due("all kinds came", kinds, 15);
    }

    private static void undo() {
        Run x = Checks.house(SIX);
        Checks.due("undo(1) of nothing", x.undo(1), Checks.NOT);
        Checks.due("undo(0)", x.undo(0), Checks.OUTSIDE);
        Checks.due("undo(-1)", x.undo(-1), Checks.OUTSIDE);
        Checks.due("undo(21)", x.undo(21), Checks.OUTSIDE);
        Checks.due("undo(20)", x.undo(20), Checks.NOT);
        String s0 = Checks.section2(x);
        x.like(0, 4, 0);
        String s1 = Checks.section2(x);
        x.moved();
        String s2 = Checks.section2(x);
        x.lot(5, 0);
        String s3 = Checks.section2(x);
        Checks.due("undo(4) of three", x.undo(4), Checks.NOT);
        Checks.same("nothing changed", Checks.section2(x), s3);
        Checks.due("undo(1)", x.undo(1), 2);
        Checks.same("one undone", Checks.section2(x), s2);
        x.leave(0);
        Checks.due("told(11)", x.told(11), 3);
        Checks.due("undo(2)", x.undo(2), 1);
        Checks.same("two undone", Checks.section2(x), s1);
        Checks.due("undo(1)", x.undo(1), 0);
        Checks.same("all undone", Checks.section2(x), s0);
        Checks.due("undo(1)", x.undo(1), Checks.NOT);
        // What is seen and written is no deed and stays.
        x.see(1, true);
        x.write(0, 1);
        x.lot(0, 3);
        x.seed(55);
        Checks.due("undo(1)", x.undo(1), 0);
        Checks.due("told(9)", x.told(9), 1);
        Checks.due("told(10)", x.told(10), 1);
        Checks.due("the seed stays", x.seed(0), 55);
    }

    private static void undoOfEachDeed() {
        for (int kind = 0; kind < 7; kind++) {
            Run x = Checks.house(SIX);
            String before = Checks.all(x);
            int answer = kind == 0 ? x.like(2, 4, 0) : kind == 1 ? x.strike(5, 4) : kind == 2 ? x.lot(5, 2)
                : kind == 3 ? x.refuse(1) : kind == 4 ? x.moved() : kind == 5 ? x.leave(2) : x.drift(3);
            Checks.sound("deed " + kind + " is done", answer >= -1);
            Checks.due("deed " + kind + ": told(11)", x.told(11), kind == 6 ? 3 : 1);
            Checks.due("deed " + kind + ": undo", x.undo(kind == 6 ? 3 : 1), 0);
            Checks.same("deed " + kind + " undone", Checks.all(x), before);
        }
    }

    private static Run likedOften(int times) {
        Run x = Checks.house("r8;n0;n0;n0;");
        for (int i = 0; i < times; i++) {
            x.like(i % 3, i % 8, i % 5);
        }
        return x;
    }

    private static void undoTwenty() {
        Run x = likedOften(55);
        Checks.due("told(11)", x.told(11), 20);
        Checks.due("undo(21)", x.undo(21), Checks.OUTSIDE);
        Checks.due("undo(7)", x.undo(7), 13);
        Checks.same("seven undone", Checks.section2(x), Checks.section2(likedOften(48)));
        Checks.due("undo(14)", x.undo(14), Checks.NOT);
        Checks.due("undo(13)", x.undo(13), 0);
        Checks.same("twenty undone", Checks.section2(x), Checks.section2(likedOften(35)));
        x.drift(20);
        Checks.due("told(11)", x.told(11), 20);
        Checks.due("undo(20)", x.undo(20), 0);
        Checks.same("twenty more undone", Checks.section2(x), Checks.section2(likedOften(35)));
    }
}
