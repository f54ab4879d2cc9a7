/**
 * One object and the calls that it has had. The document promises nothing behind the 512th call, so a test that goes
 * beyond it is itself not as due.
 */
final class Run {
    static final int MOST_CALLS = 512;

    /** The run that was called last: its calls tell how a wrong answer came about. */
    private static Run latest = null;

    private final RoomRings x = new RoomRings();
    private final StringBuilder log = new StringBuilder();
    private int calls = 0;

    Run() {
    }

    /** A run whose text was read without a fault. */
    Run(String text) {
        tell(text);
        Checks.sound("'" + text + "' is read", hostel() >= 0);
    }

    static String latestCalls() {
        return latest == null ? "" : latest.log.toString();
    }

    int calls() {
        return calls;
    }

    Run tell(String letters) {
        for (int i = 0; i < letters.length(); i++) {
            feed(letters.charAt(i));
        }
        return this;
    }

    private int noted(String call, int answer) {
        latest = this;
        calls++;
        log.append(call).append('=').append(answer).append(' ');
        if (calls == MOST_CALLS + 1) {
            Checks.sound("a run of more than " + MOST_CALLS + " calls: " + log, false);
        }
        return answer;
    }

    private static String call(String name, int... arguments) {
        StringBuilder s = new StringBuilder(name).append('(');
        for (int i = 0; i < arguments.length; i++) {
            s.append(i == 0 ? "" : ", ").append(arguments[i]);
        }
        return s.append(')').toString();
    }

    int feed(int letter) {
        return noted(call("feed", letter), x.feed(letter));
    }

    int hostel() {
        return noted("hostel()", x.hostel());
    }

    int fault() {
        return noted("fault()", x.fault());
    }

    int told(int what) {
        return noted(call("told", what), x.told(what));
    }

    int person(int p, int what) {
        return noted(call("person", p, what), x.person(p, what));
    }

    int likes(int p, int k) {
        return noted(call("likes", p, k), x.likes(p, k));
    }

    int room(int r, int what) {
        return noted(call("room", r, what), x.room(r, what));
    }

    int like(int p, int r, int k) {
        return noted(call("like", p, r, k), x.like(p, r, k));
    }

    int strike(int p, int r) {
        return noted(call("strike", p, r), x.strike(p, r));
    }

    int lot(int p, int place) {
        return noted(call("lot", p, place), x.lot(p, place));
    }

    int refuse(int p) {
        return noted(call("refuse", p), x.refuse(p));
    }

    int moved() {
        return noted("moved()", x.moved());
    }

    int leave(int p) {
        return noted(call("leave", p), x.leave(p));
    }

    int drift(int n) {
        return noted(call("drift", n), x.drift(n));
    }

    int undo(int n) {
        return noted(call("undo", n), x.undo(n));
    }

    int otherwise(int p, int r) {
        return noted(call("otherwise", p, r), x.otherwise(p, r));
    }

    int odds(int p, int r) {
        return noted(call("odds", p, r), x.odds(p, r));
    }

    int quiet(int n, int q) {
        return noted(call("quiet", n, q), x.quiet(n, q));
    }

    int see(int r, boolean got) {
        return noted("see(" + r + ", " + got + ")", x.see(r, got));
    }

    int couldBe() {
        return noted("couldBe()", x.couldBe());
    }

    int ask() {
        return noted("ask()", x.ask());
    }

    int write(int p, int r) {
        return noted(call("write", p, r), x.write(p, r));
    }

    int judge() {
        return noted("judge()", x.judge());
    }

    int tear() {
        return noted("tear()", x.tear());
    }

    int seed(int v) {
        return noted(call("seed", v), x.seed(v));
    }

    int keep(int i) {
        return noted(call("keep", i), x.keep(i));
    }

    int goBack(int i) {
        return noted(call("goBack", i), x.goBack(i));
    }
}
