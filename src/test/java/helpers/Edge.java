/**
 * What the tests of the document's sentences share. of() begins a test: it says which sentence of which section it is
 * for, and all that is compared until the next of() is compared for it.
 */
abstract class Edge {
    static final int NONE = Checks.NONE;
    static final int UNKNOWN = Checks.UNKNOWN;
    static final int OUTSIDE = Checks.OUTSIDE;
    static final int NOT = Checks.NOT;
    static final int FULL = Checks.FULL;
    static final int LEAST = Integer.MIN_VALUE;
    static final int GREATEST = Integer.MAX_VALUE;

    /** No ROOM, PERSON, IMAGE has one of these, nor is one of them a place or what is asked for. */
    static final int[] FAR = {
        LEAST, LEAST + 1, FULL, UNKNOWN, -65536, -257, -32, -8, -2, 31, 32, 33, 64, 255, 256, 65536, 268435456, 536870912,
        1000000000, GREATEST - 1, GREATEST};

    private static String sentence = "";
    private static int compared = 0;
    private static int sentences = 0;

    interface Maker {
        Run make();
    }

    interface Call {
        int on(Run x);
    }

    interface NumberCall {
        int on(Run x, int v);
    }

    static void of(String section, String words) {
        close();
        sentence = section + ": '" + words + "'";
        sentences++;
        compared = 0;
        Checks.sound(sentence + " stands in the document", Document.quote(section, words));
    }

    /** A sentence of which no call could tell whether it holds. */
    static void untold(String section, String words) {
        close();
        sentence = "";
        Checks.sound(section + ": '" + words + "' stands in the document", Document.quote(section, words));
    }

    /** A test that compares nothing would hold whatever the sentence says. */
    static void close() {
        Checks.sound(sentence + " is compared with an answer", sentence.isEmpty() || compared > 0);
    }

    static int sentences() {
        return sentences;
    }

    /** The answer to the latest call of a run. */
    static void due(int got, int want) {
        compared++;
        if (got != want) {
            System.out.println(sentence + " after " + Run.latestCalls());
        }
        Checks.due("the last of them", got, want);
    }

    static void same(String what, String got, String want) {
        compared++;
        if (!got.equals(want)) {
            System.out.println(sentence + " after " + Run.latestCalls());
        }
        Checks.same(what, got, want);
    }

    /** The call is refused so, and the object is like one that never had it. */
    static void refused(Maker maker, int want, Call call) {
        Run x = maker.make();
        due(call.on(x), want);
        Run y = maker.make();
        due(x.fault(), y.fault());
        same("all behind a refused call", everything(x), everything(y));
    }

    static void refusedEach(Maker maker, int want, int[] numbers, NumberCall call) {
        for (int v : numbers) {
            refused(maker, want, x -> call.on(x, v));
        }
    }

    static int[] farAnd(int... more) {
        int[] all = java.util.Arrays.copyOf(FAR, FAR.length + more.length);
        System.arraycopy(more, 0, all, FAR.length, more.length);
        return all;
    }

    /** Something of all: a fault, images, what can be undone, seen and written, a text half way. Image 1 is not kept. */
    static Run busy() {
        Run x = new Run("r3;t0,1;t1,0,2;n0,2;");
        x.tell("r1;x").hostel();
        x.seed(5);
        x.lot(2, 0);
        x.keep(0);
        x.like(0, 2, 0);
        x.leave(1);
        x.lot(0, 0);
        x.seed(7);
        x.see(0, false);
        x.write(0, 2);
        x.write(1, 2);
        return x.tell("r2;n1");
    }

    /** All that the object holds but the latest fault, brought to light by calls that use it up. */
    static String everything(Run x) {
        StringBuilder s = new StringBuilder();
        for (int what = 0; what <= 11; what++) {
            s.append(x.told(what)).append(' ');
        }
        s.append("now ").append(section2(x));
        s.append("seen ").append(x.couldBe()).append(' ').append(x.ask()).append(' ').append(x.judge());
        s.append(" seed ").append(x.seed(1));
        for (int left = x.told(11); left > 0; left--) {
            s.append(" undone ").append(x.undo(1)).append(": ").append(section2(x));
        }
        for (int i = 0; i < 2; i++) {
            s.append(" image ").append(x.goBack(i)).append(": ").append(section2(x)).append(x.seed(1));
        }
        s.append(" text ").append(x.tell(";").hostel()).append(' ').append(x.fault()).append(": ").append(section2(x));
        return s.toString();
    }

    static String section2(Run x) {
        return Checks.section2(x);
    }

    static String likes(Run x, int p) {
        return Checks.likes(x, p);
    }

    static String lots(Run x) {
        return Checks.lots(x);
    }

    /** What all get, person by person, '-' for none. */
    static String gets(Run x) {
        return asked(x, 3);
    }

    static String asked(Run x, int what) {
        StringBuilder s = new StringBuilder();
        int persons = x.told(1);
        for (int p = 0; p < persons; p++) {
            int answer = x.person(p, what);
            s.append(p == 0 ? "" : " ").append(answer == NONE ? "-" : "" + answer);
        }
        return s.toString();
    }

    /** The text is read so: persons, and who sits where and likes which. */
    static Run reads(String text, int rooms, String section2) {
        Run x = new Run().tell(text);
        int persons = section2.isEmpty() ? 0 : section2.split(" ").length;
        due(x.hostel(), persons);
        due(x.fault(), NONE);
        due(x.told(0), rooms);
        due(x.told(1), persons);
        same("'" + text + "'", section2(x), section2);
        return x;
    }

    static void faulty(String text, int number, int letter) {
        Run x = new Run().tell(text);
        due(x.hostel(), -10 - number);
        due(x.fault(), letter);
        due(x.told(0), 0);
        due(x.told(2), 0);
    }

    static String times(String text, int n) {
        StringBuilder s = new StringBuilder();
        for (int i = 0; i < n; i++) {
            s.append(text);
        }
        return s.toString();
    }
}
