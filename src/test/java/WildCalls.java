import java.util.Random;

/** No call may throw, whatever its arguments and whatever was called before: 512 calls and some more. */
public final class WildCalls {
    private static final int RUNS = 4000;
    private static final int[] EDGES = {
        Integer.MIN_VALUE, Integer.MIN_VALUE + 1, -1000000004, -1000000001, -65536, -256, -8, -2, -1, 0, 1, 2, 5, 6, 7, 8,
        9, 19, 20, 21, 31, 32, 33, 59, 60, 61, 64, 99, 100, 101, 239, 240, 241, 255, 256, 268435455, 268435456,
        536870912, 1000000000, Integer.MAX_VALUE - 1, Integer.MAX_VALUE};
    private static final String SIGNS = "rtn;,01234567 ";

    private WildCalls() {
    }

    public static void main(String[] args) {
        for (int run = 0; run < RUNS; run++) {
            Random random = new Random(run);
            RoomRings x = new RoomRings();
            if (random.nextInt(4) > 0) {
                for (char letter : ("r" + (1 + random.nextInt(8)) + ";t0,0;n0;n0;n0;n0;n0;").toCharArray()) {
                    x.feed(letter);
                }
                x.hostel();
            }
            int call = 0;
            try {
                for (; call < 560; call++) {
                    call(x, random);
                }
            } catch (RuntimeException e) {
                System.out.println("run " + run + ", call " + call + ": " + e);
            }
            Checks.due("run " + run + ": calls without a throw", call, 560);
        }
        Checks.end();
    }

    private static int number(Random random) {
        int kind = random.nextInt(8);
        return kind == 0 ? random.nextInt() : kind < 4 ? EDGES[random.nextInt(EDGES.length)] : random.nextInt(9) - 1;
    }

    private static int call(RoomRings x, Random random) {
        int a = number(random);
        int b = number(random);
        int c = number(random);
        switch (random.nextInt(31)) {
            case 0: return x.feed(a);
            case 1: return random.nextInt(8) == 0 ? x.hostel() : x.fault();
            case 2: return x.told(a);
            case 3: return x.person(a, b);
            case 4: return x.likes(a, b);
            case 5: return x.room(a, b);
            case 6: return x.like(a, b, c);
            case 7: return x.strike(a, b);
            case 8: return x.lot(a, b);
            case 9: return x.refuse(a);
            case 10: return x.moved();
            case 11: return x.leave(a);
            case 12: return x.drift(a);
            case 13: return x.undo(a);
            case 14: return x.otherwise(a, b);
            case 15: return random.nextInt(20) == 0 ? x.odds(a, b) : 0;
            case 16: return x.quiet(a, b);
            case 17: return x.see(a, random.nextBoolean());
            case 18: return x.couldBe();
            case 19: return x.ask();
            case 20: return x.write(a, b);
            case 21: return x.judge();
            case 22: return random.nextInt(8) == 0 ? x.tear() : 0;
            case 23: return x.seed(a);
            case 24: return x.keep(a);
            case 25: return x.goBack(a);
            default: return x.feed(SIGNS.charAt(random.nextInt(SIGNS.length())));
        }
    }
}
