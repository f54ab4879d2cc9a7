/** What the tests share: answers compared, texts fed, the end with its exit code. */
final class Checks {
    static final int NONE = -1;
    static final int UNKNOWN = -1000000001;
    static final int OUTSIDE = -1000000002;
    static final int NOT = -1000000003;
    static final int FULL = -1000000004;

    private static int answers = 0;
    private static int wrong = 0;

    private Checks() {
    }

    static void due(String call, long got, long want) {
        answers++;
        if (got != want) {
            wrong++;
            System.out.println(call + " answered " + got + ", due is " + want);
        }
    }

    static void sound(String what, boolean holds) {
        due(what, holds ? 1 : 0, 1);
    }

    static void feed(RoomRings x, String text) {
        for (int i = 0; i < text.length(); i++) {
            x.feed(text.charAt(i));
        }
    }

    /** A new object whose text was read without a fault. */
    static RoomRings house(String text) {
        RoomRings x = new RoomRings();
        feed(x, text);
        int persons = x.hostel();
        sound("'" + text + "' is read", persons >= 0);
        return x;
    }

    /** All that can be asked of an object without changing it, as one text. */
    static String all(RoomRings x) {
        StringBuilder s = new StringBuilder();
        for (int what = 0; what <= 11; what++) {
            s.append(x.told(what)).append(' ');
        }
        s.append("| ").append(section2(x));
        s.append("| ").append(x.couldBe()).append(' ').append(x.ask()).append(' ').append(x.judge());
        return s.toString();
    }

    /** Who sits where, who likes which and the lots. */
    static String section2(RoomRings x) {
        StringBuilder s = new StringBuilder();
        for (int p = 0; p < x.told(1); p++) {
            s.append(x.person(p, 0)).append('@').append(x.person(p, 2)).append(':').append(likes(x, p)).append(' ');
        }
        return s.toString();
    }

    static String likes(RoomRings x, int p) {
        StringBuilder s = new StringBuilder();
        for (int k = 0; k < x.person(p, 1); k++) {
            s.append(x.likes(p, k));
        }
        return s.toString();
    }

    static void same(String what, String got, String want) {
        answers++;
        if (!got.equals(want)) {
            wrong++;
            System.out.println(what + " is '" + got + "', due is '" + want + "'");
        }
    }

    static int wrongs() {
        return wrong;
    }

    static void end() {
        System.out.println(answers + " answers, " + wrong + " not as due");
        if (wrong != 0 || answers == 0) {
            System.exit(1);
        }
    }
}
