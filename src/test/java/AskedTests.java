/** Promises 17 to 19: what he would get by telling otherwise, by how many lots he gets a room, quiet nights. */
public final class AskedTests {
    private static final String SIX = "r5;t0,1,2;t1,2,0;t2,0;n3,1;n4,3;n3,4,0;";

    private AskedTests() {
    }

    public static void main(String[] args) {
        otherwise();
        odds();
        oddsSum();
        quiet();
        Checks.end();
    }

    private static void otherwise() {
        Run x = Checks.house(SIX);
        String before = Checks.all(x);
        Checks.due("otherwise(0, 4): the empty one, he is first", x.otherwise(0, 4), 4);
        Checks.due("otherwise(0, 1)", x.otherwise(0, 1), 1);
        Checks.due("otherwise(0, 0): where he sits", x.otherwise(0, 0), 0);
        // 1 and 2 change with one another then, and 0 is left out.
        Checks.due("otherwise(2, 1)", x.otherwise(2, 1), 1);
        Checks.due("otherwise(5, 3)", x.otherwise(5, 3), -1);
        Checks.due("otherwise(5, 1)", x.otherwise(5, 1), -1);
        Checks.due("otherwise(3, 4)", x.otherwise(3, 4), 4);
        Checks.same("nothing changed", Checks.all(x), before);
        Checks.due("otherwise(6, 0)", x.otherwise(6, 0), Checks.UNKNOWN);
        Checks.due("otherwise(-1, 0)", x.otherwise(-1, 0), Checks.UNKNOWN);
        Checks.due("otherwise(0, 5)", x.otherwise(0, 5), Checks.UNKNOWN);
        Checks.due("otherwise(0, -1)", x.otherwise(0, -1), Checks.UNKNOWN);
        Checks.due("new: otherwise(0, 0)", new Run().otherwise(0, 0), Checks.UNKNOWN);
        x = Checks.house("r3;t0,1;t1,0;t2;");
        Checks.due("he keeps his own", x.otherwise(2, 0), 2);
        x = Checks.house("r2;n0;n1;");
        Checks.due("as the lots are now", x.otherwise(1, 0), -1);
        x.lot(1, 0);
        Checks.due("as the lots are then", x.otherwise(1, 0), 0);
    }

    private static void odds() {
        Run x = Checks.house("r2;n0;n0;n0;n1,0;");
        x.lot(2, 0);
        String before = Checks.all(x);
        Checks.due("odds(0, 0)", x.odds(0, 0), 8);
        Checks.due("odds(0, NONE)", x.odds(0, -1), 16);
        Checks.due("odds(2, 0)", x.odds(2, 0), 8);
        Checks.due("odds(3, 1)", x.odds(3, 1), 24);
        Checks.due("odds(3, 0)", x.odds(3, 0), 0);
        Checks.due("odds(3, NONE)", x.odds(3, -1), 0);
        Checks.same("nothing changed", Checks.all(x), before);
        Checks.due("odds(4, 0)", x.odds(4, 0), Checks.UNKNOWN);
        Checks.due("odds(-1, 0)", x.odds(-1, 0), Checks.UNKNOWN);
        Checks.due("odds(0, 2)", x.odds(0, 2), Checks.UNKNOWN);
        Checks.due("odds(0, -2)", x.odds(0, -2), Checks.UNKNOWN);
        Checks.due("new: odds(0, NONE)", new Run().odds(0, -1), Checks.UNKNOWN);
        x = Checks.house("r1;n0;");
        Checks.due("one person: odds(0, 0)", x.odds(0, 0), 1);
        Checks.due("one person: odds(0, NONE)", x.odds(0, -1), 0);
        // One of six who all want the one room: he is first in 120 of 720 orders.
        x = Checks.house("r1;n0;n0;n0;n0;n0;n0;");
        for (int p = 0; p < 6; p++) {
            Checks.due("six: odds(" + p + ", 0)", x.odds(p, 0), 120);
            Checks.due("six: odds(" + p + ", NONE)", x.odds(p, -1), 600);
        }
        // After a deed it is counted as it is then: 1 gives up the one room that both want.
        x = Checks.house("r2;n0;n0;");
        Checks.due("ahead of a strike: odds(0, 0)", x.odds(0, 0), 1);
        x.strike(1, 0);
        Checks.due("after a strike: odds(0, 0)", x.odds(0, 0), 2);
        Checks.due("after a strike: odds(1, NONE)", x.odds(1, -1), 2);
        x.moved();
        x.like(1, 0, 0);
        Checks.due("he sits there: odds(1, NONE)", x.odds(1, -1), 2);
        // All rooms are empty, so by each of the six orders one behind the other takes the best that is left.
        x = Checks.house("r3;n0,1;n0,2;n1,2;");
        Checks.due("three: odds(0, 0): ahead of 1", x.odds(0, 0), 3);
        Checks.due("three: odds(0, 1): behind 1, ahead of 2", x.odds(0, 1), 1);
        Checks.due("three: odds(0, NONE): last", x.odds(0, -1), 2);
        Checks.due("three: odds(1, 0)", x.odds(1, 0), 3);
        Checks.due("three: odds(1, 2)", x.odds(1, 2), 3);
        x = Checks.house(SIX);
        Checks.due("six: odds(3, 3)", x.odds(3, 3), 360);
        Checks.due("six: odds(5, 3)", x.odds(5, 3), 360);
        Checks.due("six: odds(5, 4)", x.odds(5, 4), 120);
        Checks.due("six: odds(0, 1)", x.odds(0, 1), 720);
        // The sitter gives up his room to whoever is second, and keeps it if he is not first.
        x = Checks.house("r2;t0,1;n1,0;");
        Checks.due("sitter: odds(0, 1)", x.odds(0, 1), 1);
        Checks.due("sitter: odds(0, 0)", x.odds(0, 0), 1);
        Checks.due("newcomer: odds(1, 0)", x.odds(1, 0), 1);
        Checks.due("newcomer: odds(1, NONE)", x.odds(1, -1), 0);
    }

    private static void oddsSum() {
        Run x = Checks.house("r4;t0,1,2;n1,0,3;n2,1;t3,2;n0,3;n1,2,3;");
        for (int p = 0; p < 6; p++) {
            int sum = 0;
            for (int r = -1; r < 4; r++) {
                sum += x.odds(p, r);
            }
            Checks.due("all odds of " + p, sum, 720);
        }
    }

    private static void quiet() {
        Run x = new Run();
        Checks.due("quiet(0, 0)", x.quiet(0, 0), 1000000000);
        Checks.due("quiet(0, 50)", x.quiet(0, 50), 1000000000);
        Checks.due("quiet(1, 0)", x.quiet(1, 0), 0);
        Checks.due("quiet(60, 100)", x.quiet(60, 100), 1000000000);
        Checks.due("quiet(2, 90)", x.quiet(2, 90), 810000000);
        Checks.due("quiet(60, 99): cut each time", x.quiet(60, 99), 547156620);
        Checks.due("quiet(4, 1)", x.quiet(4, 1), 10);
        Checks.due("quiet(5, 1)", x.quiet(5, 1), 0);
        Checks.due("quiet(-1, 50)", x.quiet(-1, 50), Checks.OUTSIDE);
        Checks.due("quiet(61, 50)", x.quiet(61, 50), Checks.OUTSIDE);
        Checks.due("quiet(1, -1)", x.quiet(1, -1), Checks.OUTSIDE);
        Checks.due("quiet(1, 101)", x.quiet(1, 101), Checks.OUTSIDE);
    }
}
