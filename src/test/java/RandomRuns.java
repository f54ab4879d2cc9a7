import java.util.Random;

/** Runs of up to 512 calls, made from fixed numbers, each answer compared with the model's. */
public final class RandomRuns {
    private static final int RUNS = 3000;
    private static final int TEXTS = 40000;
    private static final String SIGNS = "rtn;,0123456789 x9" + (char) 0 + (char) 9 + (char) 255;

    private final Random random;
    private final RoomRings x = new RoomRings();
    private final Model m = new Model();
    private final StringBuilder log = new StringBuilder();
    private int calls = 0;
    private boolean sound = true;

    private RandomRuns(long number) {
        random = new Random(number);
    }

    public static void main(String[] args) {
        for (int run = 0; run < RUNS && Checks.wrongs() < 5; run++) {
            new RandomRuns(run).mixed();
        }
        for (int run = 0; run < TEXTS && Checks.wrongs() < 5; run++) {
            new RandomRuns(1000000L + run).texts();
        }
        Checks.end();
    }

    private void mixed() {
        if (random.nextInt(10) > 0) {
            feed(text());
            answer("hostel()", x.hostel(), m.hostel());
        }
        while (calls < Run.MOST_CALLS && sound) {
            one();
        }
    }

    private void texts() {
        for (int i = 0; i < 3 && sound; i++) {
            feed(spoilt(text()));
            answer("hostel()", x.hostel(), m.hostel());
            answer("fault()", x.fault(), m.fault());
            for (int what = 0; what <= 11; what++) {
                answer("told(" + what + ")", x.told(what), m.told(what));
            }
        }
    }

    private void answer(String call, int got, int want) {
        calls++;
        // Nothing is promised behind the 512th call.
        if (calls > Run.MOST_CALLS) {
            return;
        }
        log.append(call).append(' ');
        if (got != want) {
            sound = false;
            System.out.println("after " + log);
        }
        Checks.due(call, got, want);
    }

    private void feed(String text) {
        for (int i = 0; i < text.length(); i++) {
            int letter = text.charAt(i);
            answer("feed(" + letter + ")", x.feed(letter), m.feed(letter));
        }
    }

    private String text() {
        int rooms = 1 + random.nextInt(8);
        int persons = random.nextInt(4) > 0 ? 4 + random.nextInt(3) : random.nextInt(7);
        boolean blanks = random.nextInt(3) == 0;
        StringBuilder s = new StringBuilder();
        s.append('r').append(number(rooms)).append(';');
        int taken = 0;
        for (int p = 0; p < persons; p++) {
            int seat = random.nextInt(rooms);
            boolean sits = random.nextInt(3) > 0 && (taken >> seat & 1) == 0;
            if (sits) {
                taken |= 1 << seat;
                s.append('t').append(number(seat)).append(likings(rooms, random.nextInt(rooms + 1), true)).append(';');
            } else {
                s.append('n').append(likings(rooms, 1 + random.nextInt(rooms), false)).append(';');
            }
        }
        if (blanks) {
            for (int i = random.nextInt(12); i > 0; i--) {
                s.insert(random.nextInt(s.length() + 1), ' ');
            }
        }
        return s.toString();
    }

    private String number(int value) {
        int kind = random.nextInt(30);
        return kind == 0 ? "0" + value : kind == 1 ? "00" + value : "" + value;
    }

    private String likings(int rooms, int n, boolean comma) {
        int used = 0;
        StringBuilder s = new StringBuilder();
        while (Integer.bitCount(used) < n) {
            int r = random.nextInt(rooms);
            if ((used >> r & 1) == 0) {
                if (comma || used != 0) {
                    s.append(',');
                }
                used |= 1 << r;
                s.append(number(r));
            }
        }
        return s.toString();
    }

    private String spoilt(String text) {
        StringBuilder s = new StringBuilder(text);
        for (int i = random.nextInt(3); i > 0; i--) {
            int where = random.nextInt(s.length() + 1);
            char sign = SIGNS.charAt(random.nextInt(SIGNS.length()));
            int how = random.nextInt(4);
            if (how == 0 || where == s.length()) {
                s.insert(where, sign);
            } else if (how == 1) {
                s.setCharAt(where, sign);
            } else if (how == 2) {
                s.deleteCharAt(where);
            } else {
                s.setLength(where);
            }
        }
        return s.toString();
    }

    private int p() {
        return random.nextInt(20) == 0 ? random.nextInt(10) - 2 : random.nextInt(Math.max(1, m.told(1)));
    }

    private int r() {
        return random.nextInt(20) == 0 ? random.nextInt(12) - 2 : random.nextInt(Math.max(1, m.told(0)));
    }

    private int rOrNone() {
        return random.nextInt(4) == 0 ? -1 : r();
    }

    private int n() {
        return random.nextInt(4) > 0 ? 1 + random.nextInt(4) : random.nextInt(24) - 1;
    }

    private void one() {
        int p = p();
        int r = r();
        int kind = random.nextInt(100);
        if (kind < 30) {
            look(p, r);
        } else if (kind < 62) {
            deed(p, r);
        } else if (kind < 72) {
            askOf(p, r);
        } else if (kind < 92) {
            note(p);
        } else {
            rare();
        }
    }

    private void look(int p, int r) {
        int kind = random.nextInt(20);
        if (kind < 8) {
            int what = random.nextInt(14) - 1;
            answer("told(" + what + ")", x.told(what), m.told(what));
        } else if (kind < 14) {
            int what = random.nextInt(10) - 1;
            answer("person(" + p + ", " + what + ")", x.person(p, what), m.person(p, what));
        } else if (kind < 17) {
            int k = random.nextInt(10) - 1;
            answer("likes(" + p + ", " + k + ")", x.likes(p, k), m.likes(p, k));
        } else {
            int what = random.nextInt(4) - 1;
            answer("room(" + r + ", " + what + ")", x.room(r, what), m.room(r, what));
        }
    }

    private void deed(int p, int r) {
        int n = n();
        switch (random.nextInt(9)) {
            case 0:
            case 1: {
                int k = random.nextInt(10) - 1;
                answer("like(" + p + ", " + r + ", " + k + ")", x.like(p, r, k), m.like(p, r, k));
                break;
            }
            case 2:
                answer("strike(" + p + ", " + r + ")", x.strike(p, r), m.strike(p, r));
                break;
            case 3: {
                int place = random.nextInt(8) - 1;
                answer("lot(" + p + ", " + place + ")", x.lot(p, place), m.lot(p, place));
                break;
            }
            case 4:
                answer("refuse(" + p + ")", x.refuse(p), m.refuse(p));
                break;
            case 5:
                answer("moved()", x.moved(), m.moved());
                break;
            case 6:
                answer("leave(" + p + ")", x.leave(p), m.leave(p));
                break;
            case 7:
                answer("drift(" + n + ")", x.drift(n), m.drift(n));
                break;
            default:
                answer("undo(" + n + ")", x.undo(n), m.undo(n));
        }
    }

    private void askOf(int p, int r) {
        int kind = random.nextInt(20);
        if (kind < 10) {
            answer("otherwise(" + p + ", " + r + ")", x.otherwise(p, r), m.otherwise(p, r));
        } else if (kind < 17) {
            int n = random.nextInt(64) - 1;
            int q = random.nextInt(104) - 1;
            answer("quiet(" + n + ", " + q + ")", x.quiet(n, q), m.quiet(n, q));
        } else if (kind == 17) {
            int room = rOrNone();
            answer("odds(" + p + ", " + room + ")", x.odds(p, room), m.odds(p, room));
        } else {
            answer("person(" + p + ", 6)", x.person(p, 6), m.person(p, 6));
        }
    }

    private void note(int p) {
        int room = rOrNone();
        boolean got = random.nextInt(4) == 0;
        int kind = random.nextInt(20);
        if (kind < 4) {
            answer("see(" + room + ", " + got + ")", x.see(room, got), m.see(room, got));
        } else if (kind < 8) {
            answer("couldBe()", x.couldBe(), m.couldBe());
        } else if (kind < 11) {
            answer("ask()", x.ask(), m.ask());
        } else if (kind < 17) {
            int due = random.nextInt(4) > 0 && m.isPerson(p) ? m.person(p, 3) : room;
            answer("write(" + p + ", " + due + ")", x.write(p, due), m.write(p, due));
        } else if (kind < 19) {
            answer("judge()", x.judge(), m.judge());
        } else if (random.nextInt(3) == 0) {
            answer("tear()", x.tear(), m.tear());
        }
    }

    private void rare() {
        int i = random.nextInt(8) == 0 ? random.nextInt(5) - 2 : random.nextInt(2);
        switch (random.nextInt(8)) {
            case 0: {
                int v = random.nextInt();
                answer("seed(" + v + ")", x.seed(v), m.seed(v));
                break;
            }
            case 1:
            case 2:
                answer("keep(" + i + ")", x.keep(i), m.keep(i));
                break;
            case 3:
            case 4:
                answer("goBack(" + i + ")", x.goBack(i), m.goBack(i));
                break;
            case 5: {
                int letter = random.nextInt(4) == 0 ? random.nextInt(300) - 20 : ' ';
                answer("feed(" + letter + ")", x.feed(letter), m.feed(letter));
                break;
            }
            case 6:
                if (random.nextInt(4) == 0) {
                    feed(spoilt(text()));
                }
                break;
            default:
                if (random.nextInt(3) == 0) {
                    answer("hostel()", x.hostel(), m.hostel());
                    answer("fault()", x.fault(), m.fault());
                }
        }
    }
}
