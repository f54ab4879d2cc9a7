/** What the tests share: answers compared, texts fed, the end with its exit code. */
final class Checks {
    static final int NONE = -1;
    static final int UNKNOWN = -1000000001;
    static final int OUTSIDE = -1000000002;
    static final int NOT = -1000000003;
    static final int FULL = -1000000004;

    private static int answers = 0;
    private static int wrong = 0;

    private Checks() {
    }

    static void due(String call, long got, long want) {
        answers++;
        if (got != want) {
            wrong++;
            System.out.println(call + " answered " + got + ", due is " + want);
        }
    }

    static void sound(String what, boolean holds) {
        due(what, holds ? 1 : 0, 1);
    }

    static void feed(Run x, String text) {
        x.tell(text);
    }

    /** A new object whose text was read without a fault. */
    static Run house(String text) {
        return new Run(text);
    }

    /** All that can be asked of an object without changing it, as one text. */
    static String all(Run x) {
        StringBuilder s = new StringBuilder();
        for (int what = 0; what <= 11; what++) {
            s.append(x.told(what)).append(' ');
        }
        s.append("| ").append(section2(x));
        s.append("| ").append(x.couldBe()).append(' ').append(x.ask()).append(' ').append(x.judge());
        return s.toString();
    }

    /** Who sits where, at which place by lot, who likes which: "seat@place:likes ", person by person. */
    static String section2(Run x) {
        StringBuilder s = new StringBuilder();
        int persons = x.told(1);
        for (int p = 0; p < persons; p++) {
            s.append(x.person(p, 0)).append('@').append(x.person(p, 2)).append(':').append(likes(x, p)).append(' ');
        }
        return s.toString();
    }

    static String likes(Run x, int p) {
        StringBuilder s = new StringBuilder();
        int n = x.person(p, 1);
        for (int k = 0; k < n; k++) {
            s.append(x.likes(p, k));
        }
        return s.toString();
    }

    /** Persons by their lots, the first first. */
    static String lots(Run x) {
        int persons = x.told(1);
        char[] order = new char[persons];
        for (int p = 0; p < persons; p++) {
            int place = x.person(p, 2);
            if (place >= 0 && place < persons) {
                order[place] = (char) ('0' + p);
            }
        }
        return new String(order);
    }

    static void same(String what, String got, String want) {
        answers++;
        if (!got.equals(want)) {
            wrong++;
            System.out.println(what + " is '" + got + "', due is '" + want + "'");
        }
    }

    static int wrongs() {
        return wrong;
    }

    static void end() {
        System.out.println(answers + " answers, " + wrong + " not as due");
        if (wrong != 0 || answers == 0) {
            System.exit(1);
        }
    }
}
