/** Promises 20 to 25: what is seen of the unknown person, whom to ask, the book. */
public final class SeenTests {
    private static final String SIX = "r5;t0,1,2;t1,2,0;t2,0;n3,1;n4,3;n3,4,0;";

    private SeenTests() {
    }

    public static void main(String[] args) {
        see();
        seeFull();
        couldBe();
        ask();
        write();
        judge();
        tear();
        Checks.end();
    }

    private static void see() {
        Run x = Checks.house("r3;n0;");
        Checks.due("see(0, true)", x.see(0, true), 1);
        Checks.due("see(2, false)", x.see(2, false), 2);
        Checks.due("see(NONE, false)", x.see(-1, false), 3);
        Checks.due("see(3, true)", x.see(3, true), Checks.UNKNOWN);
        Checks.due("see(-2, true)", x.see(-2, true), Checks.UNKNOWN);
        Checks.due("told(9)", x.told(9), 3);
        x = new Run();
        Checks.due("new: see(0, true)", x.see(0, true), Checks.UNKNOWN);
        Checks.due("new: see(NONE, true)", x.see(-1, true), 1);
        Checks.due("new: couldBe()", x.couldBe(), 0);
        Checks.due("new: ask()", x.ask(), -1);
    }

    private static void seeFull() {
        Run x = Checks.house("r3;n0;n1;");
        for (int i = 1; i <= 6; i++) {
            Checks.due("see number " + i, x.see(i < 6 ? 2 : 0, i == 6), i);
        }
        Checks.due("the sixth counts", x.couldBe(), 1);
        Checks.due("see number 7", x.see(1, false), Checks.FULL);
        Checks.due("see number 7, NONE", x.see(-1, false), Checks.FULL);
        Checks.due("full: see(3, false): UNKNOWN first", x.see(3, false), Checks.UNKNOWN);
        Checks.due("told(9)", x.told(9), 6);
        Checks.due("couldBe()", x.couldBe(), 1);
    }

    private static void couldBe() {
        Run x = Checks.house(SIX);
        Checks.due("nothing seen", x.couldBe(), 63);
        x.see(3, false);
        Checks.due("not room 3", x.couldBe(), 55);
        x.see(-1, false);
        Checks.due("not none", x.couldBe(), 23);
        x.see(0, false);
        Checks.due("not room 0", x.couldBe(), 19);
        x.see(1, true);
        Checks.due("room 1", x.couldBe(), 1);
        x.see(2, true);
        Checks.due("room 2, too: nobody", x.couldBe(), 0);
        x.tear();
        x.see(-1, true);
        Checks.due("none", x.couldBe(), 32);
        // As it is given out now, not as it was when it was seen.
        x.strike(4, 4);
        x.strike(4, 3);
        Checks.due("none, now", x.couldBe(), 16);
        x.undo(2);
        Checks.due("none, again", x.couldBe(), 32);
    }

    private static void ask() {
        Run x = Checks.house("r4;n2;n3;n3;");
        Checks.due("ask(): the least room that one got", x.ask(), 2);
        x.see(2, false);
        Checks.due("ask(): the next", x.ask(), 3);
        x.see(3, false);
        Checks.due("ask(): one alone", x.ask(), -1);
        x.see(-1, false);
        Checks.due("ask(): nobody", x.ask(), -1);
        x = Checks.house("r3;n0;n0;n0;");
        Checks.due("ask(): room 0 alone parts them", x.ask(), 0);
        x = Checks.house("r3;n2;n2;n2;");
        Checks.due("ask(): the last room alone parts them", x.ask(), 2);
        x = Checks.house("r2;n0;n1;n1;n1;");
        x.see(0, false);
        x.see(1, false);
        Checks.due("two who got none", x.couldBe(), 12);
        Checks.due("ask(): none parts them", x.ask(), -1);
        x = Checks.house("r2;n1;");
        Checks.due("ask() of one person", x.ask(), -1);
        Checks.due("ask() without persons", Checks.house("r2;").ask(), -1);
    }

    private static void write() {
        Run x = Checks.house("r3;n0;n1;");
        Checks.due("write(0, 0)", x.write(0, 0), 1);
        Checks.due("write(1, NONE)", x.write(1, -1), 2);
        Checks.due("write(1, 2)", x.write(1, 2), 3);
        Checks.due("write(2, 0)", x.write(2, 0), Checks.UNKNOWN);
        Checks.due("write(-1, 0)", x.write(-1, 0), Checks.UNKNOWN);
        Checks.due("write(0, 3)", x.write(0, 3), Checks.UNKNOWN);
        Checks.due("write(0, -2)", x.write(0, -2), Checks.UNKNOWN);
        for (int i = 4; i <= 20; i++) {
            Checks.due("entry " + i, x.write(0, 0), i);
        }
        Checks.due("entry 21", x.write(0, 0), Checks.FULL);
        Checks.due("full: write(2, 0): UNKNOWN first", x.write(2, 0), Checks.UNKNOWN);
        Checks.due("full: write(0, 3): UNKNOWN first", x.write(0, 3), Checks.UNKNOWN);
        Checks.due("told(10)", x.told(10), 20);
        Checks.due("new: write(0, NONE)", new Run().write(0, -1), Checks.UNKNOWN);
    }

    private static void judge() {
        Run x = Checks.house("r3;n0;n1;n0;");
        Checks.due("no book", x.judge(), -1);
        x.write(0, 0);
        x.write(2, -1);
        Checks.due("all is so", x.judge(), -1);
        x.write(1, 2);
        x.write(1, -1);
        Checks.due("the first that is otherwise", x.judge(), 2);
        x.lot(2, 0);
        Checks.due("as it is now", x.judge(), 0);
        x.undo(1);
        Checks.due("as it was", x.judge(), 2);
        x.tear();
        for (int i = 0; i < 19; i++) {
            x.write(1, 1);
        }
        x.write(0, -1);
        Checks.due("the twentieth", x.judge(), 19);
        x.tear();
        x.write(0, 0);
        x.write(2, 0);
        Checks.due("nothing is not a room", x.judge(), 1);
    }

    private static void tear() {
        Run x = Checks.house("r3;n0;n1;");
        Checks.due("tear() of nothing", x.tear(), 0);
        x.see(0, true);
        x.see(0, true);
        x.write(0, 1);
        x.write(0, 1);
        x.write(0, 1);
        Checks.due("tear()", x.tear(), 5);
        Checks.due("told(9)", x.told(9), 0);
        Checks.due("told(10)", x.told(10), 0);
        Checks.due("couldBe()", x.couldBe(), 3);
        Checks.due("judge()", x.judge(), -1);
        Checks.due("tear() again", x.tear(), 0);
        Checks.due("see() anew", x.see(1, true), 1);
        Checks.due("couldBe() anew", x.couldBe(), 2);
        Checks.due("write() anew", x.write(1, 1), 1);
        Checks.due("judge() anew", x.judge(), -1);
    }
}
