/** Promises 26 to 28: the seed, and images to go on from. */
public final class ImageTests {
    private static final String SIX = "r5;t0,1,2;t1,2,0;t2,0;n3,1;n4,3;n3,4,0;";

    private ImageTests() {
    }

    public static void main(String[] args) {
        seed();
        keepAndGoBack();
        refused();
        whatIsKept();
        withoutHostel();
        Checks.end();
    }

    private static void seed() {
        Run x = new Run();
        Checks.due("seed(2147483647)", x.seed(2147483647), 0);
        Checks.due("seed(-1)", x.seed(-1), Checks.OUTSIDE);
        Checks.due("seed(least)", x.seed(Integer.MIN_VALUE), Checks.OUTSIDE);
        Checks.due("seed(0)", x.seed(0), 2147483647);
        Checks.due("seed(1)", x.seed(1), 0);
        Checks.due("seed(5)", x.seed(5), 1);
        // From 0 the first draw of 4 is 12345 / 65536 = 0: a LIKE, which takes four draws in all.
        x = Checks.house(SIX);
        x.drift(1);
        long s = 0;
        for (int i = 0; i < 4; i++) {
            s = (s * 1103515245L + 12345L) % 2147483648L;
        }
        Checks.due("the seed after one LIKE", x.seed(0), s);
    }

    private static void keepAndGoBack() {
        Run x = Checks.house(SIX);
        x.seed(11);
        String first = Checks.section2(x);
        Checks.due("keep(0)", x.keep(0), 1);
        x.moved();
        x.like(5, 2, 0);
        x.lot(5, 0);
        x.seed(22);
        String second = Checks.section2(x);
        Checks.due("told(11) ahead of keep(1)", x.told(11), 3);
        Checks.due("keep(1)", x.keep(1), 1);
        Checks.due("told(11) after keep(1)", x.told(11), 0);
        Checks.due("undo(1) after keep(1)", x.undo(1), Checks.NOT);
        Checks.same("keep changes nothing else", Checks.section2(x), second);
        x.drift(7);
        Checks.due("goBack(0)", x.goBack(0), 1);
        Checks.due("told(11) after goBack(0)", x.told(11), 0);
        Checks.due("undo(1) after goBack(0)", x.undo(1), Checks.NOT);
        Checks.same("image 0", Checks.section2(x), first);
        Checks.due("its seed", x.seed(33), 11);
        x.leave(0);
        Checks.due("goBack(1)", x.goBack(1), 1);
        Checks.same("image 1", Checks.section2(x), second);
        Checks.due("its seed", x.seed(33), 22);
        // An image is not changed by what is done afterwards, and can be gone back to often.
        x.goBack(0);
        x.moved();
        x.strike(5, 4);
        x.goBack(0);
        Checks.same("image 0 again", Checks.section2(x), first);
        x.lot(0, 4);
        String third = Checks.section2(x);
        x.keep(0);
        x.lot(0, 0);
        x.goBack(0);
        Checks.same("image 0 kept anew", Checks.section2(x), third);
        x.goBack(1);
        Checks.same("image 1 as it was", Checks.section2(x), second);
    }

    private static void refused() {
        Run x = Checks.house(SIX);
        x.lot(0, 3);
        String before = Checks.all(x);
        Checks.due("keep(-1)", x.keep(-1), Checks.UNKNOWN);
        Checks.due("keep(2)", x.keep(2), Checks.UNKNOWN);
        Checks.due("goBack(-1)", x.goBack(-1), Checks.UNKNOWN);
        Checks.due("goBack(2)", x.goBack(2), Checks.UNKNOWN);
        Checks.due("goBack(0)", x.goBack(0), Checks.NOT);
        Checks.due("goBack(1)", x.goBack(1), Checks.NOT);
        Checks.same("nothing changed", Checks.all(x), before);
        x.keep(0);
        Checks.due("goBack(1): the other was kept", x.goBack(1), Checks.NOT);
    }

    private static void whatIsKept() {
        Run x = Checks.house(SIX);
        x.see(1, true);
        x.write(0, 1);
        x.keep(0);
        x.see(2, true);
        x.write(0, 2);
        x.feed('r');
        x.goBack(0);
        Checks.due("told(2) is no part of it", x.told(2), 1);
        Checks.due("told(9) is no part of it", x.told(9), 2);
        Checks.due("told(10) is no part of it", x.told(10), 2);
        Checks.due("judge()", x.judge(), 1);
    }

    private static void withoutHostel() {
        Run x = new Run();
        x.seed(8);
        Checks.due("no hostel: keep(1)", x.keep(1), 1);
        x.seed(9);
        Checks.due("no hostel: goBack(1)", x.goBack(1), 1);
        Checks.due("no hostel: the seed", x.seed(0), 8);
        Checks.due("no hostel: told(0)", x.told(0), 0);
        Checks.feed(x, "r2;n1;");
        x.hostel();
        Checks.due("goBack(1) after hostel()", x.goBack(1), Checks.NOT);
    }
}
