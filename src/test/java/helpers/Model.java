import java.util.ArrayDeque;
import java.util.ArrayList;
import java.util.Collections;
import java.util.List;

/**
 * The document told once more, in another way and without thrift: lists, search over all partings, all orders
 * one by one. The random runs compare the class with it.
 */
final class Model {
    private static final int NONE = Checks.NONE;
    private static final int UNKNOWN = Checks.UNKNOWN;
    private static final int OUTSIDE = Checks.OUTSIDE;
    private static final int NOT = Checks.NOT;
    private static final int FULL = Checks.FULL;

    /** All of section 2. */
    static final class State {
        int rooms = 0;
        final List<List<Integer>> likes = new ArrayList<>();
        final List<Integer> seats = new ArrayList<>();
        final List<Integer> lots = new ArrayList<>();

        State copy() {
            State c = new State();
            c.rooms = rooms;
            for (List<Integer> l : likes) {
                c.likes.add(new ArrayList<>(l));
            }
            c.seats.addAll(seats);
            c.lots.addAll(lots);
            return c;
        }

        int persons() {
            return seats.size();
        }

        List<Integer> wouldHave(int p) {
            List<Integer> list = new ArrayList<>(likes.get(p));
            int own = seats.get(p);
            if (own != NONE) {
                if (!list.contains(own)) {
                    list.add(own);
                }
                list = new ArrayList<>(list.subList(0, list.indexOf(own) + 1));
            }
            return list;
        }
    }

    /** What came out for each person. */
    static final class Outcome {
        int[] gets;
        int[] round;
        int[] ring;
        int rounds;
    }

    private static final class Fault extends RuntimeException {
        private static final long serialVersionUID = 1L;
        final int number;
        final int where;

        Fault(int number, int where) {
            super("fault");
            this.number = number;
            this.where = where;
        }
    }

    private final StringBuilder text = new StringBuilder();
    private int fault = NONE;
    private State now = new State();
    private long seed = 0;
    private final ArrayDeque<State> past = new ArrayDeque<>();
    private final State[] images = new State[2];
    private final long[] imageSeeds = new long[2];
    private final List<int[]> seen = new ArrayList<>();
    private final List<int[]> book = new ArrayList<>();

    // ---- the hostel

    int feed(int letter) {
        if (letter < 0 || letter > 255) {
            return OUTSIDE;
        }
        if (text.length() == 240) {
            return FULL;
        }
        text.append((char) letter);
        return text.length();
    }

    int hostel() {
        String t = text.toString();
        text.setLength(0);
        try {
            now = read(t);
        } catch (Fault f) {
            fault = f.where;
            return -10 - f.number;
        }
        fault = NONE;
        seen.clear();
        book.clear();
        past.clear();
        images[0] = null;
        images[1] = null;
        return now.persons();
    }

    /** Words and numbers first, then the clauses over them: token i is {kind, value, where, figures}. */
    private static State read(String t) {
        List<int[]> tokens = new ArrayList<>();
        int i = 0;
        while (i < t.length()) {
            char c = t.charAt(i);
            if (c >= '0' && c <= '9') {
                int end = i;
                while (end < t.length() && t.charAt(end) >= '0' && t.charAt(end) <= '9') {
                    end++;
                }
                int value = end - i > 3 ? -1 : Integer.parseInt(t.substring(i, end));
                tokens.add(new int[] {'#', value, i});
                i = end;
            } else {
                if (c != ' ') {
                    tokens.add(new int[] {c, 0, i});
                }
                i++;
            }
        }
        State s = new State();
        if (tokens.isEmpty()) {
            return s;
        }
        tokens.add(new int[] {'$' + 1000, 0, t.length()});
        int at = 0;
        need(tokens, at++, 'r');
        int[] n = need(tokens, at++, '#');
        if (n[1] < 1 || n[1] > 8) {
            throw new Fault(2, n[2]);
        }
        s.rooms = n[1];
        need(tokens, at++, ';');
        while (at < tokens.size() - 1) {
            int[] word = tokens.get(at++);
            if (word[0] == 'r') {
                throw new Fault(3, word[2]);
            }
            if (word[0] != 't' && word[0] != 'n') {
                throw new Fault(1, word[2]);
            }
            if (s.persons() == 6) {
                throw new Fault(3, word[2]);
            }
            int seat = NONE;
            List<Integer> likes = new ArrayList<>();
            boolean first = true;
            do {
                int[] number = need(tokens, at++, '#');
                int r = number[1];
                if (r < 0 || r >= s.rooms) {
                    throw new Fault(2, number[2]);
                }
                if (first && word[0] == 't') {
                    if (s.seats.contains(r)) {
                        throw new Fault(4, number[2]);
                    }
                    seat = r;
                } else {
                    if (likes.contains(r)) {
                        throw new Fault(4, number[2]);
                    }
                    likes.add(r);
                }
                first = false;
            } while (tokens.get(at)[0] == ',' && at++ >= 0);
            need(tokens, at++, ';');
            s.lots.add(s.persons());
            s.seats.add(seat);
            s.likes.add(likes);
        }
        return s;
    }

    private static int[] need(List<int[]> tokens, int at, int kind) {
        int[] token = tokens.get(at);
        if (token[0] != kind) {
            throw new Fault(1, token[2]);
        }
        return token;
    }

    int fault() {
        return fault;
    }

    int told(int what) {
        Outcome out = giveOut(now);
        int set = 0;
        switch (what) {
            case 0: return now.rooms;
            case 1: return now.persons();
            case 2: return text.length();
            case 3: return out.rounds;
            case 4:
                for (int p = 0; p < now.persons(); p++) {
                    set += out.gets[p] == NONE ? 1 << p : 0;
                }
                return set;
            case 5:
                for (int r = 0; r < now.rooms; r++) {
                    set += indexOf(out.gets, r) == NONE ? 1 << r : 0;
                }
                return set;
            case 6:
                for (int r = 0; r < now.rooms; r++) {
                    set += now.seats.contains(r) ? 0 : 1 << r;
                }
                return set;
            case 7: return groups().isEmpty() ? NONE : leastGroup();
            case 8: return groups().size();
            case 9: return seen.size();
            case 10: return book.size();
            case 11: return past.size();
            default: return OUTSIDE;
        }
    }

    int person(int p, int what) {
        if (!isPerson(p)) {
            return UNKNOWN;
        }
        Outcome out = giveOut(now);
        switch (what) {
            case 0: return now.seats.get(p);
            case 1: return now.likes.get(p).size();
            case 2: return now.lots.indexOf(p);
            case 3: return out.gets[p];
            case 4: return out.round[p];
            case 5: return out.ring[p];
            case 6: return byLot(p);
            case 7:
                List<Integer> list = now.wouldHave(p);
                return out.gets[p] == NONE ? list.size() : list.indexOf(out.gets[p]);
            default: return OUTSIDE;
        }
    }

    int likes(int p, int k) {
        if (!isPerson(p)) {
            return UNKNOWN;
        }
        return k >= 0 && k < now.likes.get(p).size() ? now.likes.get(p).get(k) : NONE;
    }

    int room(int r, int what) {
        if (!isRoom(r)) {
            return UNKNOWN;
        }
        if (what != 0 && what != 1) {
            return OUTSIDE;
        }
        return what == 0 ? now.seats.indexOf(r) : indexOf(giveOut(now).gets, r);
    }

    // ---- deeds

    int like(int p, int r, int k) {
        if (!isPerson(p) || !isRoom(r)) {
            return UNKNOWN;
        }
        if (k < 0 || k > 7) {
            return OUTSIDE;
        }
        remember();
        doLike(p, r, k);
        return now.likes.get(p).size();
    }

    int strike(int p, int r) {
        if (!isPerson(p) || !isRoom(r)) {
            return UNKNOWN;
        }
        if (!now.likes.get(p).contains(r)) {
            return NOT;
        }
        remember();
        now.likes.get(p).remove(Integer.valueOf(r));
        return now.likes.get(p).size();
    }

    int lot(int p, int place) {
        if (!isPerson(p)) {
            return UNKNOWN;
        }
        if (place < 0 || place >= now.persons()) {
            return OUTSIDE;
        }
        int before = now.lots.indexOf(p);
        remember();
        doLot(p, place);
        return before;
    }

    int refuse(int p) {
        if (!isPerson(p)) {
            return UNKNOWN;
        }
        int r = giveOut(now).gets[p];
        if (r == NONE || r == now.seats.get(p)) {
            return NOT;
        }
        remember();
        now.likes.get(p).remove(Integer.valueOf(r));
        return giveOut(now).gets[p];
    }

    int moved() {
        if (now.persons() == 0) {
            return NOT;
        }
        remember();
        return doMove();
    }

    int leave(int p) {
        if (!isPerson(p)) {
            return UNKNOWN;
        }
        int r = now.seats.get(p);
        if (r == NONE) {
            return NOT;
        }
        remember();
        now.seats.set(p, NONE);
        return r;
    }

    int drift(int n) {
        if (n < 1 || n > 20) {
            return OUTSIDE;
        }
        if (now.rooms == 0) {
            return NOT;
        }
        if (now.persons() > 0) {
            for (int i = 0; i < n; i++) {
                remember();
                int kind = draw(4);
                int p = draw(now.persons());
                switch (kind) {
                    case 0: {
                        int r = draw(now.rooms);
                        int k = draw(8);
                        doLike(p, r, k);
                        break;
                    }
                    case 1:
                        now.likes.get(p).remove(Integer.valueOf(draw(now.rooms)));
                        break;
                    case 2:
                        doLot(p, draw(now.persons()));
                        break;
                    default:
                        doMove();
                }
            }
        }
        return Integer.bitCount(told(6));
    }

    int undo(int n) {
        if (n < 1 || n > 20) {
            return OUTSIDE;
        }
        if (past.size() < n) {
            return NOT;
        }
        for (int i = 0; i < n; i++) {
            now = past.removeLast();
        }
        return past.size();
    }

    private void remember() {
        past.addLast(now.copy());
        if (past.size() > 20) {
            past.removeFirst();
        }
    }

    private void doLike(int p, int r, int k) {
        List<Integer> list = now.likes.get(p);
        list.remove(Integer.valueOf(r));
        if (k >= list.size()) {
            list.add(r);
        } else {
            list.add(k, r);
        }
    }

    private void doLot(int p, int place) {
        now.lots.remove(Integer.valueOf(p));
        now.lots.add(place, p);
    }

    private int doMove() {
        Outcome out = giveOut(now);
        int changed = 0;
        for (int p = 0; p < now.persons(); p++) {
            changed += now.seats.get(p) != out.gets[p] ? 1 : 0;
            now.seats.set(p, out.gets[p]);
        }
        return changed;
    }

    private int draw(int n) {
        seed = (seed * 1103515245L + 12345L) & 0x7fffffffL;
        return (int) ((seed >> 16) % n);
    }

    // ---- asked

    int otherwise(int p, int r) {
        if (!isPerson(p) || !isRoom(r)) {
            return UNKNOWN;
        }
        State s = now.copy();
        s.likes.set(p, new ArrayList<>(List.of(r)));
        return giveOut(s).gets[p];
    }

    int odds(int p, int r) {
        if (!isPerson(p) || r != NONE && !isRoom(r)) {
            return UNKNOWN;
        }
        State s = now.copy();
        Collections.sort(s.lots);
        return countOrders(s, 0, p, r);
    }

    private static int countOrders(State s, int fixed, int p, int r) {
        if (fixed == s.lots.size()) {
            return giveOut(s).gets[p] == r ? 1 : 0;
        }
        int count = 0;
        for (int i = fixed; i < s.lots.size(); i++) {
            Collections.swap(s.lots, fixed, i);
            count += countOrders(s, fixed + 1, p, r);
            Collections.swap(s.lots, fixed, i);
        }
        return count;
    }

    int quiet(int n, int q) {
        if (n < 0 || n > 60 || q < 0 || q > 100) {
            return OUTSIDE;
        }
        long v = 1000000000L;
        while (n-- > 0) {
            v = v * q / 100;
        }
        return (int) v;
    }

    // ---- what is seen

    int see(int r, boolean got) {
        if (r != NONE && !isRoom(r)) {
            return UNKNOWN;
        }
        if (seen.size() == 6) {
            return FULL;
        }
        seen.add(new int[] {r, got ? 1 : 0});
        return seen.size();
    }

    int couldBe() {
        Outcome out = giveOut(now);
        int set = (1 << now.persons()) - 1;
        for (int p = 0; p < now.persons(); p++) {
            for (int[] s : seen) {
                if ((out.gets[p] == s[0] ? 1 : 0) != s[1]) {
                    set &= ~(1 << p);
                }
            }
        }
        return set;
    }

    int ask() {
        Outcome out = giveOut(now);
        int set = couldBe();
        int best = NONE;
        int bestGreater = 99;
        for (int r = 0; r < now.rooms; r++) {
            int in = 0;
            int others = 0;
            for (int p = 0; p < now.persons(); p++) {
                if ((set >> p & 1) == 1) {
                    if (out.gets[p] == r) {
                        in++;
                    } else {
                        others++;
                    }
                }
            }
            if (in > 0 && others > 0 && Math.max(in, others) < bestGreater) {
                bestGreater = Math.max(in, others);
                best = r;
            }
        }
        return best;
    }

    int write(int p, int r) {
        if (!isPerson(p) || r != NONE && !isRoom(r)) {
            return UNKNOWN;
        }
        if (book.size() == 20) {
            return FULL;
        }
        book.add(new int[] {p, r});
        return book.size();
    }

    int judge() {
        Outcome out = giveOut(now);
        for (int i = 0; i < book.size(); i++) {
            if (out.gets[book.get(i)[0]] != book.get(i)[1]) {
                return i;
            }
        }
        return NONE;
    }

    int tear() {
        int had = seen.size() + book.size();
        seen.clear();
        book.clear();
        return had;
    }

    // ---- images

    int seed(int v) {
        if (v < 0) {
            return OUTSIDE;
        }
        int before = (int) seed;
        seed = v;
        return before;
    }

    int keep(int i) {
        if (i != 0 && i != 1) {
            return UNKNOWN;
        }
        images[i] = now.copy();
        imageSeeds[i] = seed;
        past.clear();
        return 1;
    }

    int goBack(int i) {
        if (i != 0 && i != 1) {
            return UNKNOWN;
        }
        if (images[i] == null) {
            return NOT;
        }
        now = images[i].copy();
        seed = imageSeeds[i];
        past.clear();
        return 1;
    }

    // ---- the rules

    boolean isPerson(int p) {
        return p >= 0 && p < now.persons();
    }

    boolean isRoom(int r) {
        return r >= 0 && r < now.rooms;
    }

    private static int indexOf(int[] row, int value) {
        for (int i = 0; i < row.length; i++) {
            if (row[i] == value) {
                return i;
            }
        }
        return NONE;
    }

    static Outcome giveOut(State s) {
        int n = s.persons();
        Outcome out = new Outcome();
        out.gets = new int[n];
        out.round = new int[n];
        out.ring = new int[n];
        List<Integer> there = new ArrayList<>(s.lots);
        List<Integer> open = new ArrayList<>();
        for (int r = 0; r < s.rooms; r++) {
            open.add(r);
        }
        while (!there.isEmpty()) {
            for (int p : new ArrayList<>(there)) {
                if (Collections.disjoint(s.wouldHave(p), open)) {
                    there.remove(Integer.valueOf(p));
                    out.gets[p] = NONE;
                    out.round[p] = out.rounds;
                    out.ring[p] = 1 << p;
                }
            }
            List<Integer> goers = new ArrayList<>();
            for (int p : there) {
                List<Integer> round = walk(s, there, open, p);
                if (round != null) {
                    goers.add(p);
                    out.gets[p] = aim(s, open, p);
                    out.round[p] = out.rounds;
                    for (int q : round) {
                        out.ring[p] |= 1 << q;
                    }
                }
            }
            for (int p : goers) {
                there.remove(Integer.valueOf(p));
                open.remove(Integer.valueOf(out.gets[p]));
            }
            out.rounds++;
        }
        return out;
    }

    private static int aim(State s, List<Integer> open, int p) {
        for (int r : s.wouldHave(p)) {
            if (open.contains(r)) {
                return r;
            }
        }
        return NONE;
    }

    /** The persons met from p until p comes again; null if he does not. */
    private static List<Integer> walk(State s, List<Integer> there, List<Integer> open, int p) {
        List<Integer> met = new ArrayList<>();
        int q = p;
        while (!met.contains(q)) {
            met.add(q);
            int sitter = s.seats.indexOf(aim(s, open, q));
            q = there.contains(sitter) ? sitter : there.get(0);
        }
        return q == p ? met : null;
    }

    private int byLot(int p) {
        List<Integer> taken = new ArrayList<>();
        for (int place = 0; place < now.persons(); place++) {
            int q = now.lots.get(place);
            int choice = NONE;
            for (int r : now.wouldHave(q)) {
                int sitter = now.seats.indexOf(r);
                boolean kept = sitter != NONE && sitter != q && now.lots.indexOf(sitter) > place;
                if (choice == NONE && !taken.contains(r) && !kept) {
                    choice = r;
                }
            }
            if (q == p) {
                return choice;
            }
            taken.add(choice);
        }
        return NONE;
    }

    private List<Integer> groups() {
        List<Integer> found = new ArrayList<>();
        for (int set = 1; set < 1 << now.persons(); set++) {
            List<Integer> members = new ArrayList<>();
            List<Integer> rooms = new ArrayList<>();
            for (int p = 0; p < now.persons(); p++) {
                if ((set >> p & 1) == 1) {
                    members.add(p);
                    rooms.add(now.seats.get(p));
                }
            }
            if (!rooms.contains(NONE) && canPart(members, rooms, 0, false)) {
                found.add(set);
            }
        }
        return found;
    }

    /** Tries all ways to hand the rooms to the members, one after the other. */
    private boolean canPart(List<Integer> members, List<Integer> rooms, int i, boolean better) {
        if (i == members.size()) {
            return better;
        }
        List<Integer> list = now.wouldHave(members.get(i));
        int own = list.indexOf(now.seats.get(members.get(i)));
        for (int r : rooms) {
            int rank = list.indexOf(r);
            if (rank != NONE && rank <= own) {
                List<Integer> rest = new ArrayList<>(rooms);
                rest.remove(Integer.valueOf(r));
                if (canPart(members, rest, i + 1, better || rank < own)) {
                    return true;
                }
            }
        }
        return false;
    }

    private int leastGroup() {
        int least = NONE;
        for (int set : groups()) {
            if (least == NONE || Integer.bitCount(set) < Integer.bitCount(least)) {
                least = set;
            }
        }
        return least;
    }
}
