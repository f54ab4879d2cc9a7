/** A house whose rooms are given out anew by rings of pointing; the document is ../shared/DOC.md. */
public final class RoomRings {
    public static final int NONE = -1, UNKNOWN = -1000000001, OUTSIDE = -1000000002, NOT = -1000000003, FULL = -1000000004;

    private static final int MOST_ROOMS = 8;
    private static final int MOST_PERSONS = 6;
    private static final int MOST_LETTERS = 240;
    private static final int MOST_FIGURES = 3;
    private static final int MOST_SEEN = 6;
    private static final int MOST_ENTRIES = 20;
    private static final int MOST_UNDONE = 20;
    private static final int MOST_DRIFT = 20;
    private static final int MOST_NIGHTS = 60;
    private static final int HUNDRED = 100;
    private static final int IMAGES = 2;
    private static final long BILLION = 1000000000L;
    private static final int FAULT_BASE = -10;

    private final Text text = new Text();
    private final House house = new House();
    private final House trial = new House();
    private final Dealing dealing = new Dealing();
    private final Bartering bartering = new Bartering();
    private final Past past = new Past();
    private final Notebook notebook = new Notebook();
    private final Dice dice = new Dice();
    private final Image[] images = new Image[IMAGES];

    public RoomRings() {
        for (int i = 0; i < images.length; i++) {
            images[i] = new Image();
        }
    }

    // ---- the hostel

    public int feed(int letter) {
        if (letter < 0 || letter > 255) {
            return OUTSIDE;
        }
        return text.add(letter);
    }

    public int hostel() {
        int number = text.readInto(trial);
        if (number != 0) {
            return FAULT_BASE - number;
        }
        house.copy(trial);
        past.forget();
        notebook.clear();
        for (int i = 0; i < images.length; i++) {
            Image image = images[i];
            if (image != null) {
                image.drop();
            }
        }
        return house.persons;
    }

    public int fault() {
        return text.faultAt;
    }

    public int told(int what) {
        switch (what) {
            case 0: return house.rooms;
            case 1: return house.persons;
            case 2: return text.length;
            case 3: return dealt().rounds;
            case 4: return dealt().emptyHanded(house);
            case 5: return dealt().open;
            case 6: return house.emptyRooms();
            case 7: return weighed().least;
            case 8: return weighed().count;
            case 9: return notebook.seen;
            case 10: return notebook.entries;
            case 11: return past.size;
            default: return OUTSIDE;
        }
    }

    public int person(int p, int what) {
        if (!house.hasPerson(p)) {
            return UNKNOWN;
        }
        switch (what) {
            case 0: return house.seatOf(p);
            case 1: return house.amount(p);
            case 2: return house.placeOf(p);
            case 3: return dealt().roomOf(p);
            case 4: return dealt().roundOf(p);
            case 5: return dealt().ringOf(p);
            case 6: return chosenByLot(p);
            case 7: return house.rank(p, dealt().roomOf(p));
            default: return OUTSIDE;
        }
    }

    public int likes(int p, int k) {
        if (!house.hasPerson(p)) {
            return UNKNOWN;
        }
        return house.liking(p, k);
    }

    public int room(int r, int what) {
        if (!house.hasRoom(r)) {
            return UNKNOWN;
        }
        switch (what) {
            case 0: return house.sitter(r);
            case 1: return dealt().winner(house, r);
            default: return OUTSIDE;
        }
    }

    // ---- deeds

    public int like(int p, int r, int k) {
        if (!house.hasPerson(p) || !house.hasRoom(r)) {
            return UNKNOWN;
        }
        if (k < 0 || k >= MOST_ROOMS) {
            return OUTSIDE;
        }
        past.push(house);
        house.putLiking(p, r, k);
        return house.amount(p);
    }

    public int strike(int p, int r) {
        if (!house.hasPerson(p) || !house.hasRoom(r)) {
            return UNKNOWN;
        }
        if (house.likingPlace(p, r) == NONE) {
            return NOT;
        }
        past.push(house);
        house.dropLiking(p, r);
        return house.amount(p);
    }

    public int lot(int p, int place) {
        if (!house.hasPerson(p)) {
            return UNKNOWN;
        }
        if (place < 0 || place >= house.persons) {
            return OUTSIDE;
        }
        int before = house.placeOf(p);
        past.push(house);
        house.toPlace(p, place);
        return before;
    }

    public int refuse(int p) {
        if (!house.hasPerson(p)) {
            return UNKNOWN;
        }
        int r = dealt().roomOf(p);
        if (r == NONE || r == house.seatOf(p)) {
            return NOT;
        }
        past.push(house);
        house.dropLiking(p, r);
        return dealt().roomOf(p);
    }

    public int moved() {
        if (house.persons == 0) {
            return NOT;
        }
        past.push(house);
        return moveAll();
    }

    public int leave(int p) {
        if (!house.hasPerson(p)) {
            return UNKNOWN;
        }
        int r = house.seatOf(p);
        if (r == NONE) {
            return NOT;
        }
        past.push(house);
        house.seat(p, NONE);
        return r;
    }

    public int drift(int n) {
        if (n < 1 || n > MOST_DRIFT) {
            return OUTSIDE;
        }
        if (house.rooms == 0) {
            return NOT;
        }
        for (int i = 0; i < n && house.persons > 0; i++) {
            past.push(house);
            drawDeed();
        }
        return Integer.bitCount(house.emptyRooms());
    }

    public int undo(int n) {
        if (n < 1 || n > MOST_UNDONE) {
            return OUTSIDE;
        }
        if (n > past.size) {
            return NOT;
        }
        past.pop(n, house);
        return past.size;
    }

    // ---- asked

    public int otherwise(int p, int r) {
        if (!house.hasPerson(p) || !house.hasRoom(r)) {
            return UNKNOWN;
        }
        trial.copy(house);
        trial.clearLikings(p);
        trial.addLiking(p, r);
        dealing.deal(trial);
        return dealing.roomOf(p);
    }

    public int odds(int p, int r) {
        if (!house.hasPerson(p) || !house.hasRoomOrNone(r)) {
            return UNKNOWN;
        }
        trial.copy(house);
        int orders = trial.orders();
        int count = 0;
        for (int code = 0; code < orders; code++) {
            trial.orderBy(code);
            dealing.deal(trial);
            if (dealing.roomOf(p) == r) {
                count++;
            }
        }
        return count;
    }

    public int quiet(int n, int q) {
        if (n < 0 || n > MOST_NIGHTS || q < 0 || q > HUNDRED) {
            return OUTSIDE;
        }
        long chance = BILLION;
        for (int night = 0; night < n; night++) {
            chance = chance * q / HUNDRED;
        }
        return (int) chance;
    }

    // ---- what is seen

    public int see(int r, boolean got) {
        if (!house.hasRoomOrNone(r)) {
            return UNKNOWN;
        }
        return notebook.addSeen(r, got);
    }

    public int couldBe() {
        return notebook.fitting(dealt(), house.persons);
    }

    public int ask() {
        int suspects = notebook.fitting(dealt(), house.persons);
        int all = Integer.bitCount(suspects);
        int best = NONE;
        int least = all;
        for (int r = 0; r < house.rooms; r++) {
            int got = holds(suspects, dealing.winner(house, r)) ? 1 : 0;
            int greater = Math.max(got, all - got);
            // A room that parts nobody leaves the greater part as great as all.
            if (greater < least) {
                least = greater;
                best = r;
            }
        }
        return best;
    }

    public int write(int p, int r) {
        if (!house.hasPerson(p) || !house.hasRoomOrNone(r)) {
            return UNKNOWN;
        }
        return notebook.addEntry(p, r);
    }

    public int judge() {
        return notebook.firstWrong(dealt());
    }

    public int tear() {
        int had = notebook.seen + notebook.entries;
        notebook.clear();
        return had;
    }

    // ---- images

    public int seed(int v) {
        if (v < 0) {
            return OUTSIDE;
        }
        int before = dice.state;
        dice.state = v;
        return before;
    }

    public int keep(int i) {
        Image image = imageAt(i);
        if (image == null) {
            return UNKNOWN;
        }
        image.store(house, dice.state);
        past.forget();
        return 1;
    }

    public int goBack(int i) {
        Image image = imageAt(i);
        if (image == null) {
            return UNKNOWN;
        }
        if (!image.kept) {
            return NOT;
        }
        house.copy(image.house);
        dice.state = image.state;
        past.forget();
        return 1;
    }

    // ---- inside

    private Image imageAt(int i) {
        return i >= 0 && i < images.length ? images[i] : null;
    }

    private Dealing dealt() {
        dealing.deal(house);
        return dealing;
    }

    private Bartering weighed() {
        bartering.weigh(house);
        return bartering;
    }

    private int moveAll() {
        dealing.deal(house);
        int changed = 0;
        for (int p = 0; p < house.persons; p++) {
            int r = dealing.roomOf(p);
            if (r != house.seatOf(p)) {
                house.seat(p, r);
                changed++;
            }
        }
        return changed;
    }

    private void drawDeed() {
        int kind = dice.draw(4);
        int p = dice.draw(house.persons);
        if (kind == 0) {
            int r = dice.draw(house.rooms);
            house.putLiking(p, r, dice.draw(MOST_ROOMS));
        } else if (kind == 1) {
            house.dropLiking(p, dice.draw(house.rooms));
        } else if (kind == 2) {
            house.toPlace(p, dice.draw(house.persons));
        } else {
            moveAll();
        }
    }

    private int chosenByLot(int p) {
        int left = firstOnes(house.rooms);
        int waiting = firstOnes(house.persons);
        for (int place = 0; place < house.persons; place++) {
            int q = at(house.order, place);
            waiting = without(waiting, q);
            int r = house.best(q, left & ~house.seatsOf(waiting));
            if (q == p) {
                return r;
            }
            left = without(left, r);
        }
        return NONE;
    }

    private static int at(int[] row, int i) {
        return i >= 0 && i < row.length ? row[i] : NONE;
    }

    private static void put(int[] row, int i, int value) {
        if (i >= 0 && i < row.length) {
            row[i] = value;
        }
    }

    private static int firstOnes(int n) {
        return n > 0 && n < 31 ? (1 << n) - 1 : 0;
    }

    private static boolean holds(int set, int k) {
        return k >= 0 && k < 31 && (set >> k & 1) == 1;
    }

    private static int with(int set, int k) {
        return k >= 0 && k < 31 ? set | 1 << k : set;
    }

    private static int without(int set, int k) {
        return k >= 0 && k < 31 ? set & ~(1 << k) : set;
    }

    /** Who sits where, who likes which, and the lots: all that deeds change, and images and the past hold. */
    private static final class House {
        int rooms;
        int persons;
        final int[] seats = new int[MOST_PERSONS];
        final int[] amounts = new int[MOST_PERSONS];
        final int[] likings = new int[MOST_PERSONS * MOST_ROOMS];
        final int[] order = new int[MOST_PERSONS];

        void clear() {
            rooms = 0;
            persons = 0;
        }

        void copy(House from) {
            rooms = from.rooms;
            persons = from.persons;
            System.arraycopy(from.seats, 0, seats, 0, seats.length);
            System.arraycopy(from.amounts, 0, amounts, 0, amounts.length);
            System.arraycopy(from.likings, 0, likings, 0, likings.length);
            System.arraycopy(from.order, 0, order, 0, order.length);
        }

        /** The one who comes now is last by lot and has neither seat nor likes yet. */
        int addPerson() {
            int p = persons;
            put(seats, p, NONE);
            put(amounts, p, 0);
            put(order, p, p);
            persons = Math.min(p + 1, MOST_PERSONS);
            return p;
        }

        boolean hasPerson(int p) {
            return p >= 0 && p < persons;
        }

        boolean hasRoom(int r) {
            return r >= 0 && r < rooms;
        }

        boolean hasRoomOrNone(int r) {
            return r == NONE || hasRoom(r);
        }

        int seatOf(int p) {
            return at(seats, p);
        }

        void seat(int p, int r) {
            put(seats, p, r);
        }

        int sitter(int r) {
            for (int p = 0; p < persons; p++) {
                if (r != NONE && at(seats, p) == r) {
                    return p;
                }
            }
            return NONE;
        }

        int seatsOf(int set) {
            int taken = 0;
            for (int p = 0; p < persons; p++) {
                if (holds(set, p)) {
                    taken = with(taken, at(seats, p));
                }
            }
            return taken;
        }

        int emptyRooms() {
            return firstOnes(rooms) & ~seatsOf(firstOnes(persons));
        }

        int amount(int p) {
            return at(amounts, p);
        }

        int liking(int p, int k) {
            return k >= 0 && k < at(amounts, p) ? at(likings, p * MOST_ROOMS + k) : NONE;
        }

        int likingPlace(int p, int r) {
            int n = at(amounts, p);
            for (int k = 0; k < n; k++) {
                if (at(likings, p * MOST_ROOMS + k) == r) {
                    return k;
                }
            }
            return NONE;
        }

        void addLiking(int p, int r) {
            int n = at(amounts, p);
            if (n >= 0 && n < MOST_ROOMS) {
                put(likings, p * MOST_ROOMS + n, r);
                put(amounts, p, n + 1);
            }
        }

        void clearLikings(int p) {
            put(amounts, p, 0);
        }

        void dropLiking(int p, int r) {
            int place = likingPlace(p, r);
            if (place == NONE) {
                return;
            }
            int row = p * MOST_ROOMS;
            int last = at(amounts, p) - 1;
            for (int k = place; k < last; k++) {
                put(likings, row + k, at(likings, row + k + 1));
            }
            put(amounts, p, last);
        }

        void putLiking(int p, int r, int k) {
            dropLiking(p, r);
            int row = p * MOST_ROOMS;
            int n = at(amounts, p);
            int place = Math.min(k, n);
            addLiking(p, r);
            for (int i = n; i > place; i--) {
                put(likings, row + i, at(likings, row + i - 1));
            }
            put(likings, row + place, r);
        }

        int placeOf(int p) {
            for (int place = 0; place < persons; place++) {
                if (at(order, place) == p) {
                    return place;
                }
            }
            return NONE;
        }

        void toPlace(int p, int place) {
            int from = placeOf(p);
            for (int i = from; i < place; i++) {
                put(order, i, at(order, i + 1));
            }
            for (int i = from; i > place; i--) {
                put(order, i, at(order, i - 1));
            }
            put(order, place, p);
        }

        int orders() {
            int n = 1;
            for (int i = 2; i <= persons; i++) {
                n *= i;
            }
            return n;
        }

        /** Each code below orders() makes another order: its figures, in mixed base, choose from those left. */
        void orderBy(int code) {
            int rest = code;
            int left = firstOnes(persons);
            for (int place = 0; place < persons; place++) {
                int choices = persons - place;
                int q = member(left, rest % choices);
                rest /= choices;
                put(order, place, q);
                left = without(left, q);
            }
        }

        private int member(int set, int skip) {
            int ahead = skip;
            for (int p = 0; p < persons; p++) {
                if (holds(set, p)) {
                    if (ahead == 0) {
                        return p;
                    }
                    ahead--;
                }
            }
            return NONE;
        }

        int firstOf(int set) {
            for (int place = 0; place < persons; place++) {
                int p = at(order, place);
                if (holds(set, p)) {
                    return p;
                }
            }
            return NONE;
        }

        /** The room of the set that a person would have most. */
        int best(int p, int set) {
            int own = at(seats, p);
            int n = at(amounts, p);
            for (int k = 0; k < n; k++) {
                int r = at(likings, p * MOST_ROOMS + k);
                if (holds(set, r)) {
                    return r;
                }
                if (r == own) {
                    return NONE;
                }
            }
            return holds(set, own) ? own : NONE;
        }

        /** How many rooms a person would rather have: all that he would have, if this one is not among them. */
        int rank(int p, int r) {
            int own = at(seats, p);
            int n = at(amounts, p);
            for (int k = 0; k < n; k++) {
                int liked = at(likings, p * MOST_ROOMS + k);
                if (liked == r) {
                    return k;
                }
                if (liked == own) {
                    return k + 1;
                }
            }
            return own == NONE || own == r ? n : n + 1;
        }
    }

    /** The rooms given out once, ring by ring; each asking deals anew, so nothing here outlives a call. */
    private static final class Dealing {
        int rounds;
        int open;
        private int there;
        private final int[] got = new int[MOST_PERSONS];
        private final int[] roundDone = new int[MOST_PERSONS];
        private final int[] rings = new int[MOST_PERSONS];
        private final int[] target = new int[MOST_PERSONS];
        private final int[] onward = new int[MOST_PERSONS];

        void deal(House h) {
            there = firstOnes(h.persons);
            open = firstOnes(h.rooms);
            rounds = 0;
            for (int round = 0; round < MOST_PERSONS && there != 0; round++) {
                aim(h);
                follow(h);
                closeRings(h);
                rounds = round + 1;
            }
        }

        int roomOf(int p) {
            return at(got, p);
        }

        int roundOf(int p) {
            return at(roundDone, p);
        }

        int ringOf(int p) {
            return at(rings, p);
        }

        int winner(House h, int r) {
            for (int p = 0; p < h.persons; p++) {
                if (at(got, p) == r) {
                    return p;
                }
            }
            return NONE;
        }

        int emptyHanded(House h) {
            int set = 0;
            for (int p = 0; p < h.persons; p++) {
                if (at(got, p) == NONE) {
                    set = with(set, p);
                }
            }
            return set;
        }

        /** Who finds no open room goes at once, so that no room points at him in this round. */
        private void aim(House h) {
            for (int p = 0; p < h.persons; p++) {
                if (holds(there, p)) {
                    int r = h.best(p, open);
                    put(target, p, r);
                    if (r == NONE) {
                        finish(p, NONE, with(0, p));
                        there = without(there, p);
                    }
                }
            }
        }

        private void follow(House h) {
            int first = h.firstOf(there);
            for (int p = 0; p < h.persons; p++) {
                if (holds(there, p)) {
                    int sitter = h.sitter(at(target, p));
                    put(onward, p, holds(there, sitter) ? sitter : first);
                }
            }
        }

        /** All rings of a round close together: who goes is struck off only when all have been found. */
        private void closeRings(House h) {
            int gone = 0;
            for (int p = 0; p < h.persons; p++) {
                int ring = holds(there, p) ? ringFrom(p) : 0;
                if (ring != 0) {
                    int r = at(target, p);
                    finish(p, r, ring);
                    gone = with(gone, p);
                    open = without(open, r);
                }
            }
            there &= ~gone;
        }

        private int ringFrom(int p) {
            int ring = 0;
            int q = p;
            for (int step = 0; step < MOST_PERSONS; step++) {
                ring = with(ring, q);
                q = at(onward, q);
                if (q == p) {
                    return ring;
                }
            }
            return 0;
        }

        private void finish(int p, int r, int ring) {
            put(got, p, r);
            put(roundDone, p, rounds);
            put(rings, p, ring);
        }
    }

    /** The sets of sitters who could do better among their own rooms. */
    private static final class Bartering {
        int least;
        int count;
        private final int[] envied = new int[MOST_PERSONS];

        void weigh(House h) {
            int sitters = 0;
            for (int p = 0; p < h.persons; p++) {
                if (h.seatOf(p) != NONE) {
                    sitters = with(sitters, p);
                }
                put(envied, p, whomEnvies(h, p));
            }
            least = NONE;
            count = 0;
            for (int set = 1; set <= sitters; set++) {
                if ((set & ~sitters) == 0 && hasRing(set)) {
                    count++;
                    if (least == NONE || Integer.bitCount(set) < Integer.bitCount(least)) {
                        least = set;
                    }
                }
            }
        }

        private int whomEnvies(House h, int p) {
            int own = h.seatOf(p);
            int bound = h.rank(p, own);
            int set = 0;
            for (int q = 0; q < h.persons; q++) {
                int r = h.seatOf(q);
                if (own != NONE && r != NONE && h.rank(p, r) < bound) {
                    set = with(set, q);
                }
            }
            return set;
        }

        /** Nobody worse and one better means that some go round in a ring, each to a room that he would rather have. */
        private boolean hasRing(int set) {
            int rest = set;
            for (int pass = 0; pass < MOST_PERSONS; pass++) {
                for (int p = 0; p < MOST_PERSONS; p++) {
                    if (holds(rest, p) && (at(envied, p) & rest) == 0) {
                        rest = without(rest, p);
                    }
                }
            }
            return rest != 0;
        }
    }

    /** The text as it comes, and the reading of it. */
    private static final class Text {
        int length;
        int faultAt = NONE;
        private int fault;
        private int pos;
        private int numberAt;
        private final int[] letters = new int[MOST_LETTERS];

        int add(int letter) {
            if (length >= MOST_LETTERS) {
                return FULL;
            }
            put(letters, length, letter);
            length++;
            return length;
        }

        /** The number of the fault, or 0; the text is empty afterwards. */
        int readInto(House draft) {
            draft.clear();
            pos = 0;
            fault = 0;
            faultAt = NONE;
            if (peek() != NONE) {
                readRooms(draft);
                for (int clause = 0; clause < MOST_LETTERS && fault == 0 && peek() != NONE; clause++) {
                    readClause(draft);
                }
            }
            length = 0;
            return fault;
        }

        private void fail(int number, int where) {
            if (fault == 0) {
                fault = number;
                faultAt = where;
            }
        }

        /** The next letter that is no blank; NONE at the end. */
        private int peek() {
            for (; pos >= 0 && pos < length && pos < letters.length; pos++) {
                if (letters[pos] != ' ') {
                    return letters[pos];
                }
            }
            return NONE;
        }

        private void expect(int letter) {
            if (peek() == letter) {
                pos++;
            } else {
                fail(1, pos);
            }
        }

        private void readRooms(House draft) {
            expect('r');
            if (fault != 0) {
                return;
            }
            int n = readNumber();
            if (n < 1 || n > MOST_ROOMS) {
                fail(2, numberAt);
            }
            if (fault == 0) {
                draft.rooms = n;
                expect(';');
            }
        }

        private void readClause(House draft) {
            int word = peek();
            checkWord(word, draft.persons);
            if (fault != 0) {
                return;
            }
            pos++;
            int p = draft.addPerson();
            if (word == 't') {
                readSeat(draft, p);
            } else {
                readLiking(draft, p);
            }
            // No more than eight can follow: a ninth is no room, or one that is liked already.
            for (int k = 0; k <= MOST_ROOMS && fault == 0 && peek() == ','; k++) {
                pos++;
                readLiking(draft, p);
            }
            if (fault == 0) {
                expect(';');
            }
        }

        private void checkWord(int word, int persons) {
            if (word != 'r' && word != 't' && word != 'n') {
                fail(1, pos);
            } else if (word == 'r' || persons >= MOST_PERSONS) {
                fail(3, pos);
            }
        }

        private void readSeat(House draft, int p) {
            int r = readRoom(draft);
            if (fault == 0 && draft.sitter(r) != NONE) {
                fail(4, numberAt);
            }
            if (fault == 0) {
                draft.seat(p, r);
            }
        }

        private void readLiking(House draft, int p) {
            int r = readRoom(draft);
            if (fault == 0 && draft.likingPlace(p, r) != NONE) {
                fail(4, numberAt);
            }
            if (fault == 0) {
                draft.addLiking(p, r);
            }
        }

        private int readRoom(House draft) {
            int r = readNumber();
            if (!draft.hasRoom(r)) {
                fail(2, numberAt);
            }
            return r;
        }

        private int readNumber() {
            peek();
            numberAt = pos;
            int value = 0;
            int figures = 0;
            for (; pos < length && isFigure(at(letters, pos)); pos++) {
                figures++;
                // Beyond three figures it is a fault anyway, and the value would overflow.
                if (figures <= MOST_FIGURES) {
                    value = value * 10 + at(letters, pos) - '0';
                }
            }
            if (figures == 0) {
                fail(1, numberAt);
            } else if (figures > MOST_FIGURES) {
                fail(2, numberAt);
            }
            return value;
        }

        private static boolean isFigure(int letter) {
            return letter >= '0' && letter <= '9';
        }
    }

    /** The houses ahead of the latest deeds, the oldest first; made once and used again. */
    private static final class Past {
        int size;
        private final House[] houses = new House[MOST_UNDONE];

        Past() {
            for (int i = 0; i < houses.length; i++) {
                houses[i] = new House();
            }
        }

        void forget() {
            size = 0;
        }

        void push(House now) {
            if (size >= houses.length) {
                dropOldest();
            }
            House slot = size >= 0 && size < houses.length ? houses[size] : null;
            if (slot != null) {
                slot.copy(now);
                size++;
            }
        }

        void pop(int n, House into) {
            int i = size - n;
            House slot = i >= 0 && i < houses.length ? houses[i] : null;
            if (slot != null) {
                into.copy(slot);
                size = i;
            }
        }

        private void dropOldest() {
            House oldest = houses[0];
            int last = houses.length - 1;
            for (int i = 0; i < last; i++) {
                houses[i] = houses[i + 1];
            }
            houses[last] = oldest;
            size = last;
        }
    }

    /** A house kept aside, with the seed. */
    private static final class Image {
        boolean kept;
        int state;
        final House house = new House();

        void store(House from, int seedNow) {
            house.copy(from);
            state = seedNow;
            kept = true;
        }

        void drop() {
            kept = false;
        }
    }

    /** What is seen of the unknown person, and the book. */
    private static final class Notebook {
        int seen;
        int entries;
        private final int[] seenRooms = new int[MOST_SEEN];
        private final int[] seenGot = new int[MOST_SEEN];
        private final int[] entryPersons = new int[MOST_ENTRIES];
        private final int[] entryRooms = new int[MOST_ENTRIES];

        void clear() {
            seen = 0;
            entries = 0;
        }

        int addSeen(int r, boolean got) {
            if (seen >= MOST_SEEN) {
                return FULL;
            }
            put(seenRooms, seen, r);
            put(seenGot, seen, got ? 1 : 0);
            seen++;
            return seen;
        }

        int addEntry(int p, int r) {
            if (entries >= MOST_ENTRIES) {
                return FULL;
            }
            put(entryPersons, entries, p);
            put(entryRooms, entries, r);
            entries++;
            return entries;
        }

        int fitting(Dealing out, int persons) {
            int set = 0;
            for (int p = 0; p < persons; p++) {
                if (fits(out.roomOf(p))) {
                    set = with(set, p);
                }
            }
            return set;
        }

        private boolean fits(int r) {
            for (int i = 0; i < seen; i++) {
                boolean same = at(seenRooms, i) == r;
                if (same != (at(seenGot, i) == 1)) {
                    return false;
                }
            }
            return true;
        }

        int firstWrong(Dealing out) {
            for (int i = 0; i < entries; i++) {
                if (out.roomOf(at(entryPersons, i)) != at(entryRooms, i)) {
                    return i;
                }
            }
            return NONE;
        }
    }

    /** The seed and its draws. */
    private static final class Dice {
        private static final long FACTOR = 1103515245L;
        private static final long STEP = 12345L;
        private static final long SPAN = 2147483648L;
        private static final int CUT = 65536;

        int state;

        int draw(int n) {
            state = (int) ((state * FACTOR + STEP) % SPAN);
            return n > 0 ? state / CUT % n : 0;
        }
    }
}
