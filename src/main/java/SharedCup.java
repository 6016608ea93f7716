import java.util.NoSuchElementException;

/** People of a house, whom a shared cup binds; the document is ../shared/DOC.md. */
public final class SharedCup {
    public static final int NONE = -1;

    private static final int MOST_PEOPLE = 8;
    private static final int ALL_ROOMS = 6;
    private static final int MOST_BYTES = 400;
    private static final int MOST_TEXTS = 12;
    private static final int MOST_ACTS = 12;
    private static final int MOST_ROWS = 60;
    private static final int LAST_DAY = 9999;
    private static final int STRONGEST = 9;
    private static final int SIPS = 4;
    private static final int TRIAL_DAYS = 60;
    private static final int AHEAD_DAYS = 400;
    private static final int SPAN_SEEDS = 6;

    private final Tape tape;
    private final House home;
    private final House spare;
    private final House kept;
    private final Law rules;
    private final Law spareRules;
    private final Law keptRules;
    private final HouseText houseText;
    private final LawText lawText;
    private final Cup cup;
    private final Ties ties;
    private final Pairing pairing;
    private final Floors floors;
    private final Drinkers drinkers;
    private final House[] past;
    private int pastFirst;
    private int pastCount;
    private boolean imageKept;
    private int wrongByte;

    public SharedCup() {
        tape = new Tape();
        home = new House();
        spare = new House();
        kept = new House();
        rules = new Law();
        spareRules = new Law();
        keptRules = new Law();
        houseText = new HouseText(tape);
        lawText = new LawText(tape);
        cup = new Cup(home, rules);
        ties = new Ties(home);
        pairing = new Pairing(home);
        floors = new Floors(home);
        drinkers = new Drinkers(home, tape);
        past = new House[MOST_ACTS];
        for (int act = 0; act < MOST_ACTS; act++) {
            past[act] = new House();
        }
        wrongByte = NONE;
    }

    // ---- the tape and the texts

    public int feed(int a, int b, int c, int d, int e) {
        if (tape.length + 20 > MOST_BYTES) {
            return NONE;
        }
        tape.append(a);
        tape.append(b);
        tape.append(c);
        tape.append(d);
        tape.append(e);
        return tape.length;
    }

    public boolean end(int n) {
        if (n < 0 || n > tape.length) {
            return false;
        }
        tape.length = n;
        return true;
    }

    public int house() throws IllegalArgumentException, UnsupportedOperationException {
        spare.become(home);
        boolean right = houseText.tells(spare);
        textWasRead(right);
        if (!right) {
            throw new IllegalArgumentException();
        }
        if (home.texts >= MOST_TEXTS) {
            throw new UnsupportedOperationException();
        }
        home.become(spare);
        home.texts++;
        pastCount = 0;
        return home.texts;
    }

    public int law() throws IllegalArgumentException {
        boolean right = lawText.tells(spareRules);
        textWasRead(right);
        if (!right) {
            throw new IllegalArgumentException();
        }
        rules.become(spareRules);
        pastCount = 0;
        return rules.lines;
    }

    public int fault() {
        return wrongByte;
    }

    // ---- what there is

    public int person(int person, int what) throws IndexOutOfBoundsException, NoSuchElementException {
        needPerson(person);
        switch (what) {
            case 0:
                return home.room[person];
            case 1:
                return home.mate[person];
            case 2:
                return home.suspicion[person];
            case 3:
                return home.met[person];
            case 4:
                return home.boundTo(person);
            case 5:
                return ties.around(person);
            case 6:
                return pairing.gladder(person);
            case 7:
                return home.closest(person);
            default:
                throw new NoSuchElementException();
        }
    }

    public int liking(int person, int other) throws IndexOutOfBoundsException, IllegalArgumentException {
        needTwo(person, other);
        return home.likingOf(person, other);
    }

    public int bond(int person, int other, boolean till) throws IndexOutOfBoundsException, IllegalArgumentException {
        needTwo(person, other);
        return till ? home.heldTill(person, other) : home.held(person, other);
    }

    public int told(int person, int other, int sip, int many, int what)
            throws IndexOutOfBoundsException, IllegalArgumentException, NoSuchElementException {
        needTwo(person, other);
        needNumber(sip, 0, SIPS - 1);
        needNumber(many, 2, MOST_PEOPLE);
        int one = Math.min(person, other);
        int two = Math.max(person, other);
        switch (what) {
            case 0:
                return rules.bindsBy(home, one, two, sip, many);
            case 1:
                return rules.lastsFor(home, one, two, sip, many);
            case 2:
                return rules.suspectsBy(home, one, two);
            default:
                throw new NoSuchElementException();
        }
    }

    // ---- acts

    public int share(int people, int sip) throws IllegalArgumentException {
        needCup(people, sip);
        remember();
        return cup.pour(people & home.everybody(), sip, true);
    }

    public int wash(int person, int other) throws IndexOutOfBoundsException, IllegalArgumentException {
        needTwo(person, other);
        remember();
        int was = home.held(person, other);
        home.tie(person, other, 0, 0);
        return was;
    }

    public int go(int person, int room) throws IndexOutOfBoundsException {
        needPerson(person);
        needRoom(room);
        remember();
        int was = home.room[person];
        home.room[person] = room;
        return was;
    }

    public boolean strew(int room, boolean flour) throws IndexOutOfBoundsException {
        needRoom(room);
        remember();
        int was = home.flour;
        home.flour = flour ? was | 1 << room : was & ~(1 << room);
        return home.flour != was;
    }

    public void wed(int person, int other)
            throws IndexOutOfBoundsException, IllegalArgumentException, IllegalStateException {
        needTwo(person, other);
        if (home.mate[person] != NONE || home.mate[other] != NONE) {
            throw new IllegalStateException();
        }
        remember();
        home.marry(person, other);
    }

    public int clear(int person) throws IndexOutOfBoundsException {
        needPerson(person);
        remember();
        int was = home.suspicion[person];
        home.suspicion[person] = 0;
        return was;
    }

    public int days(int n) throws IllegalArgumentException {
        needNumber(n, 1, TRIAL_DAYS);
        remember();
        int before = home.footprints;
        Calendar.pass(home, rules, n, true);
        return home.footprints - before;
    }

    // ---- circles of the bound

    public int circles() {
        return ties.groups();
    }

    public int ends() {
        return ties.lastDay();
    }

    public int free(int day) throws IllegalArgumentException {
        needNumber(day, 0, LAST_DAY);
        return ties.unboundOn(day);
    }

    public int secrets() {
        return ties.hidden();
    }

    public int would(int people, int sip) throws IllegalArgumentException {
        needCup(people, sip);
        return cup.pour(people & home.everybody(), sip, false);
    }

    public int widest(int sip, int k) throws IllegalArgumentException {
        needNumber(sip, 0, SIPS - 1);
        needNumber(k, 2, MOST_PEOPLE);
        return cup.binding(sip, k);
    }

    public int parts(int person, int other) throws IndexOutOfBoundsException, IllegalArgumentException {
        needTwo(person, other);
        return ties.cut(person, other);
    }

    // ---- liking

    public int lovers(boolean first) {
        return first ? pairing.firstLovers() : pairing.manyLovers();
    }

    public int steady(int person) throws IndexOutOfBoundsException {
        if (person != NONE) {
            needPerson(person);
        }
        pairing.settle();
        if (person == NONE) {
            return pairing.ways;
        }
        return pairing.ways == 0 ? NONE : pairing.first[person];
    }

    public int fondest() {
        return pairing.greatest();
    }

    public int tell() {
        return ties.cover();
    }

    public int between(int person, int other) throws IndexOutOfBoundsException {
        needPerson(person);
        needPerson(other);
        return ties.steps(person, other);
    }

    public int hub() {
        return ties.centre();
    }

    // ---- who drank

    public int drank(boolean sure) throws IllegalArgumentException {
        weighDrinkers();
        return sure ? drinkers.inAll : drinkers.sets;
    }

    public int look() throws IllegalArgumentException {
        weighDrinkers();
        return drinkers.parting();
    }

    // ---- flour

    public int way(int person, int room) throws IndexOutOfBoundsException {
        needPerson(person);
        needRoom(room);
        return floors.steps(home.room[person], room);
    }

    public int unseen(int person, int other) throws IndexOutOfBoundsException, IllegalArgumentException {
        needTwo(person, other);
        return floors.meeting(home.room[person], home.room[other]);
    }

    public int trap(int k, boolean much) throws IllegalArgumentException {
        needNumber(k, 1, ALL_ROOMS);
        int rooms = floors.catching(k);
        return much ? floors.caught(rooms) : rooms;
    }

    // ---- oaths and odds

    public boolean oath(int person, int people) throws IndexOutOfBoundsException {
        needPerson(person);
        return (home.met[person] & ~people) == 0;
    }

    public int shortest(int person) throws IndexOutOfBoundsException {
        needPerson(person);
        return Integer.bitCount(home.met[person]);
    }

    public int alibi(int person) throws IndexOutOfBoundsException {
        needPerson(person);
        int bits = 0;
        for (int other = 0; other < home.people; other++) {
            // MET goes both ways, so whoever met this one alone is also among those this one met
            if (home.met[other] == 1 << person) {
                bits |= 1 << other;
            }
        }
        return bits;
    }

    public int odds(int person, int other) throws IndexOutOfBoundsException, IllegalArgumentException {
        needTwo(person, other);
        return home.strongest(person) * home.strongest(other);
    }

    // ---- days that might come

    public int ahead(int person, int n, boolean suspected) throws IndexOutOfBoundsException, IllegalArgumentException {
        needPerson(person);
        needNumber(n, 0, AHEAD_DAYS);
        spare.become(home);
        Calendar.pass(spare, rules, n, false);
        return suspected ? spare.suspicion[person] : spare.room[person];
    }

    public int calm(int n) throws IllegalArgumentException {
        needNumber(n, 0, AHEAD_DAYS);
        spare.become(home);
        return Calendar.pass(spare, rules, n, false);
    }

    public int trial(int n, boolean suspected) throws IllegalArgumentException {
        needNumber(n, 0, TRIAL_DAYS);
        int prints = tryDays(n, home.chance);
        return suspected ? spare.allSuspicion() : prints;
    }

    public int span(int n, boolean most) throws IllegalArgumentException {
        needNumber(n, 0, TRIAL_DAYS);
        int best = tryDays(n, 1);
        for (int start = 2; start <= SPAN_SEEDS; start++) {
            int prints = tryDays(n, start);
            best = most ? Math.max(best, prints) : Math.min(best, prints);
        }
        return best;
    }

    // ---- the log

    public int led(int person, boolean room) throws IndexOutOfBoundsException {
        needPerson(person);
        int many = 0;
        int latest = NONE;
        for (int ago = home.rows() - 1; ago >= 0; ago--) {
            int row = home.rowOf(ago);
            if (House.rowHas(row, person)) {
                many++;
                latest = House.rowPart(row, House.ROW_ROOM);
            }
        }
        return room ? latest : many;
    }

    public int log(int ago, int what) throws NoSuchElementException {
        if (what < House.ROW_DAY || what > House.ROW_ROOM) {
            throw new NoSuchElementException();
        }
        if (ago < 0 || ago >= home.rows()) {
            return NONE;
        }
        return House.rowPart(home.rowOf(ago), what);
    }

    public int seed(int n) {
        int was = home.chance;
        home.chance = n;
        return was;
    }

    // ---- going back

    public boolean undo() {
        if (pastCount <= 0) {
            return false;
        }
        pastCount--;
        home.become(past[(pastFirst + pastCount) % MOST_ACTS]);
        return true;
    }

    public void image() {
        kept.become(home);
        keptRules.become(rules);
        imageKept = true;
    }

    public boolean back() {
        if (!imageKept) {
            return false;
        }
        home.become(kept);
        rules.become(keptRules);
        pastCount = 0;
        return true;
    }

    public int count(int what) {
        switch (what) {
            case 0:
                return home.people;
            case 1:
                return home.texts;
            case 2:
                return rules.lines;
            case 3:
                return home.today;
            case 4:
                return home.flour;
            case 5:
                return home.binds;
            case 6:
                return home.lasts;
            case 7:
                return home.allSuspicion();
            case 8:
                return home.couples();
            case 9:
                return ties.holding();
            case 10:
                return home.footprints;
            case 11:
                return home.rows();
            case 12:
                return pastCount;
            default:
                return NONE;
        }
    }

    // ---- what the calls share

    private void needPerson(int person) {
        if (!home.has(person)) {
            throw new IndexOutOfBoundsException();
        }
    }

    private void needRoom(int room) {
        if (room < 0 || room >= ALL_ROOMS) {
            throw new IndexOutOfBoundsException();
        }
    }

    private void needTwo(int person, int other) {
        needPerson(person);
        needPerson(other);
        if (person == other) {
            throw new IllegalArgumentException();
        }
    }

    private void needNumber(int number, int least, int most) {
        if (number < least || number > most) {
            throw new IllegalArgumentException();
        }
    }

    private void needCup(int people, int sip) {
        needNumber(Integer.bitCount(people & home.everybody()), 2, MOST_PEOPLE);
        needNumber(sip, 0, SIPS - 1);
    }

    private void textWasRead(boolean right) {
        wrongByte = right ? NONE : tape.start;
        tape.length = 0;
    }

    private void weighDrinkers() {
        boolean right = drinkers.weigh();
        tape.length = 0;
        if (!right) {
            throw new IllegalArgumentException();
        }
    }

    private int tryDays(int n, int start) {
        spare.become(home);
        spare.chance = start;
        Calendar.pass(spare, rules, n, true);
        return spare.footprints - home.footprints;
    }

    private void remember() {
        if (pastCount < MOST_ACTS) {
            pastCount++;
        } else {
            pastFirst = (pastFirst + 1) % MOST_ACTS;
        }
        past[(pastFirst + pastCount - 1) % MOST_ACTS].become(home);
    }

    /** The bytes that were fed, and the thing among them (a word, figures, a sign) that a text's reader looks at. */
    private static final class Tape {
        private static final int NOTHING = 0;
        private static final int WORD = 1;
        private static final int FIGURES = 2;
        private static final int SIGN = 3;

        final int[] bytes = new int[MOST_BYTES];
        int length;
        int start;
        int finish;
        private int kind;

        void append(int number) {
            for (int shift = 24; shift >= 0 && length < MOST_BYTES; shift -= 8) {
                bytes[length] = number >>> shift & 255;
                length++;
            }
        }

        void begin() {
            finish = 0;
            advance();
        }

        void advance() {
            int at = finish;
            while (at < length && bytes[at] == ' ') {
                at++;
            }
            start = at;
            kind = kindAt(at);
            if (at < length) {
                at++;
            }
            while (kind != SIGN && at < length && kindAt(at) == kind) {
                at++;
            }
            finish = at;
        }

        private int kindAt(int at) {
            if (at >= length) {
                return NOTHING;
            }
            if (bytes[at] >= 'a' && bytes[at] <= 'z') {
                return WORD;
            }
            return bytes[at] >= '0' && bytes[at] <= '9' ? FIGURES : SIGN;
        }

        boolean isOver() {
            return kind == NOTHING;
        }

        boolean isSign(char sign) {
            return kind == SIGN && bytes[start] == sign;
        }

        boolean isWord() {
            return kind == WORD;
        }

        boolean isFigures(int many) {
            return kind == FIGURES && finish - start == many;
        }

        /** Which of the words, told with single blanks, stands here; NONE for none of them. */
        int wordAmong(String words) {
            if (kind != WORD) {
                return NONE;
            }
            int nth = 0;
            int at = start;
            boolean same = true;
            for (int i = 0; i < words.length(); i++) {
                char letter = words.charAt(i);
                if (letter != ' ') {
                    same = same && at < finish && bytes[at] == letter;
                    at++;
                } else if (same && at == finish) {
                    return nth;
                } else {
                    nth++;
                    at = start;
                    same = true;
                }
            }
            return same && at == finish ? nth : NONE;
        }

        /** The number that stands here; NONE, if there is none within its bounds. */
        int number(int least, int most) {
            if (kind != FIGURES || finish - start > 3) {
                return NONE;
            }
            int number = 0;
            for (int at = start; at < finish; at++) {
                number = number * 10 + bytes[at] - '0';
            }
            return number >= least && number <= most ? number : NONE;
        }

        boolean skipWord(String word) {
            if (wordAmong(word) != 0) {
                return false;
            }
            advance();
            return true;
        }

        boolean skipSign(char sign) {
            if (!isSign(sign)) {
                return false;
            }
            advance();
            return true;
        }
    }

    /** All that acts change and texts of the house tell. */
    private static final class House {
        static final int ROW_DAY = 0;
        static final int ROW_ONE = 1;
        static final int ROW_OTHER = 2;
        static final int ROW_ROOM = 3;

        int people;
        int texts;
        int flour;
        int binds = 5;
        int lasts = 100;
        int today;
        int chance = 1;
        int footprints;
        final int[] room = new int[MOST_PEOPLE];
        final int[] mate = new int[MOST_PEOPLE];
        final int[] suspicion = new int[MOST_PEOPLE];
        final int[] met = new int[MOST_PEOPLE];
        final int[] likes = new int[MOST_PEOPLE * MOST_PEOPLE];
        final int[] strength = new int[MOST_PEOPLE * MOST_PEOPLE];
        final int[] until = new int[MOST_PEOPLE * MOST_PEOPLE];
        /** Each row is one number, so that a house stays small: it is kept for every act that may be undone. */
        private final int[] row = new int[MOST_ROWS];

        void become(House other) {
            people = other.people;
            texts = other.texts;
            flour = other.flour;
            binds = other.binds;
            lasts = other.lasts;
            today = other.today;
            chance = other.chance;
            footprints = other.footprints;
            System.arraycopy(other.room, 0, room, 0, room.length);
            System.arraycopy(other.mate, 0, mate, 0, mate.length);
            System.arraycopy(other.suspicion, 0, suspicion, 0, suspicion.length);
            System.arraycopy(other.met, 0, met, 0, met.length);
            System.arraycopy(other.likes, 0, likes, 0, likes.length);
            System.arraycopy(other.strength, 0, strength, 0, strength.length);
            System.arraycopy(other.until, 0, until, 0, until.length);
            System.arraycopy(other.row, 0, row, 0, row.length);
        }

        boolean has(int person) {
            return person >= 0 && person < people;
        }

        int everybody() {
            return (1 << people) - 1;
        }

        void enter(int where) {
            room[people] = where;
            mate[people] = NONE;
            people++;
        }

        void marry(int one, int other) {
            mate[one] = other;
            mate[other] = one;
        }

        int couples() {
            int wedded = 0;
            for (int person = 0; person < people; person++) {
                if (mate[person] > person) {
                    wedded++;
                }
            }
            return wedded;
        }

        int likingOf(int person, int other) {
            return likes[person * MOST_PEOPLE + other];
        }

        void tie(int one, int other, int strong, int till) {
            strength[one * MOST_PEOPLE + other] = strong;
            strength[other * MOST_PEOPLE + one] = strong;
            until[one * MOST_PEOPLE + other] = till;
            until[other * MOST_PEOPLE + one] = till;
        }

        boolean holdsOn(int one, int other, int day) {
            int at = one * MOST_PEOPLE + other;
            return strength[at] > 0 && day < until[at];
        }

        boolean holds(int one, int other) {
            return holdsOn(one, other, today);
        }

        int held(int one, int other) {
            return holds(one, other) ? strength[one * MOST_PEOPLE + other] : 0;
        }

        int heldTill(int one, int other) {
            return holds(one, other) ? until[one * MOST_PEOPLE + other] : NONE;
        }

        boolean isSecret(int one, int other) {
            return mate[one] != other && holds(one, other);
        }

        int boundTo(int person) {
            int bits = 0;
            for (int other = 0; other < people; other++) {
                if (holds(person, other)) {
                    bits |= 1 << other;
                }
            }
            return bits;
        }

        int closest(int person) {
            int best = 0;
            int most = NONE;
            for (int other = 0; other < people; other++) {
                int strong = held(person, other);
                if (strong > best) {
                    best = strong;
                    most = other;
                }
            }
            return most;
        }

        int strongest(int person) {
            int most = closest(person);
            return most == NONE ? 0 : held(person, most);
        }

        int allSuspicion() {
            int sum = 0;
            for (int person = 0; person < people; person++) {
                sum += suspicion[person];
            }
            return sum;
        }

        int draw() {
            chance = 1103515245 * chance + 12345;
            return chance >>> 16 & 0x7fff;
        }

        void leaveFootprint(int one, int other, int more) {
            suspicion[one] = Math.min(99, suspicion[one] + more);
            suspicion[other] = Math.min(99, suspicion[other] + more);
            row[footprints % MOST_ROWS] = today << 9 | one << 6 | other << 3 | room[one];
            footprints++;
        }

        int rows() {
            return Math.min(footprints, MOST_ROWS);
        }

        /** The row so many ago, of which there are as many as rows() tells. */
        int rowOf(int ago) {
            return row[(footprints - 1 - ago) % MOST_ROWS];
        }

        static int rowPart(int row, int what) {
            return what == ROW_DAY ? row >>> 9 : row >>> 9 - 3 * what & 7;
        }

        static boolean rowHas(int row, int person) {
            return rowPart(row, ROW_ONE) == person || rowPart(row, ROW_OTHER) == person;
        }
    }

    /** Reads a text of THE HOUSE. Where it answers false, the tape stands at the first wrong byte. */
    private static final class HouseText {
        private static final int MOST_LINES = 14;
        private static final int PERSON = 0;

        private final Tape tape;

        HouseText(Tape tape) {
            this.tape = tape;
        }

        boolean tells(House house) {
            tape.begin();
            if (tape.isOver()) {
                return true;
            }
            for (int line = 0; line < MOST_LINES; line++) {
                if (!tellsLine(house)) {
                    return false;
                }
                if (tape.isOver()) {
                    return true;
                }
                if (!tape.skipSign(';')) {
                    return false;
                }
            }
            return false;
        }

        private boolean tellsLine(House house) {
            int kind = tape.wordAmong("person likes wed flour binds lasts bond day");
            if (kind == NONE || kind == PERSON && house.people >= MOST_PEOPLE) {
                return false;
            }
            tape.advance();
            switch (kind) {
                case PERSON:
                    return tellsPerson(house);
                case 1:
                    return tellsLikes(house);
                case 2:
                    return tellsWed(house);
                case 3:
                    return tellsFlour(house);
                case 4:
                    house.binds = takeNumber(1, STRONGEST);
                    return house.binds != NONE;
                case 5:
                    house.lasts = takeNumber(1, 400);
                    return house.lasts != NONE;
                case 6:
                    return tellsBond(house);
                default:
                    house.today = takeNumber(0, 999);
                    return house.today != NONE;
            }
        }

        private int takeNumber(int least, int most) {
            int number = tape.number(least, most);
            if (number != NONE) {
                tape.advance();
            }
            return number;
        }

        private boolean tellsPerson(House house) {
            if (!tape.skipWord("at")) {
                return false;
            }
            int where = takeNumber(0, ALL_ROOMS - 1);
            if (where == NONE) {
                return false;
            }
            house.enter(where);
            return true;
        }

        private boolean tellsLikes(House house) {
            int person = takeNumber(0, house.people - 1);
            if (person == NONE || !tape.isFigures(house.people)) {
                return false;
            }
            for (int other = 0; other < house.people; other++) {
                if (other != person) {
                    house.likes[person * MOST_PEOPLE + other] = tape.bytes[tape.start + other] - '0';
                }
            }
            tape.advance();
            return true;
        }

        private boolean tellsWed(House house) {
            int one = takeSingle(house, NONE);
            if (one == NONE) {
                return false;
            }
            int other = takeSingle(house, one);
            if (other == NONE) {
                return false;
            }
            house.marry(one, other);
            return true;
        }

        private int takeSingle(House house, int first) {
            int person = tape.number(0, house.people - 1);
            if (person == NONE || person == first || house.mate[person] != NONE) {
                return NONE;
            }
            tape.advance();
            return person;
        }

        private boolean tellsFlour(House house) {
            if (!tape.isWord()) {
                return false;
            }
            int rooms = 0;
            for (int at = tape.start; at < tape.finish; at++) {
                int letter = tape.bytes[at] - 'a';
                if (letter >= ALL_ROOMS || (rooms & 1 << letter) != 0) {
                    return false;
                }
                rooms |= 1 << letter;
            }
            house.flour = rooms;
            tape.advance();
            return true;
        }

        private boolean tellsBond(House house) {
            int one = takeNumber(0, house.people - 1);
            if (one == NONE) {
                return false;
            }
            int other = tape.number(0, house.people - 1);
            if (other == NONE || other == one) {
                return false;
            }
            tape.advance();
            int strong = takeNumber(1, STRONGEST);
            if (strong == NONE || !tape.skipWord("till")) {
                return false;
            }
            int till = takeNumber(1, 999);
            if (till == NONE) {
                return false;
            }
            house.tie(one, other, strong, till);
            return true;
        }
    }

    /** THE LAW: of each LINE its kind, its number and its condition, told behind what it joins (a stack works it out). */
    private static final class Law {
        static final int MOST_LINES = 12;
        static final int BIND = 0;
        static final int LAST = 1;
        static final int SUSPECT = 2;
        /** A step of a condition below FACT is a number itself; from FACT on it is a fact, from NOT on a sign. */
        static final int FACT = 1000;
        static final int NOT = 2000;
        static final int AND = 2001;
        static final int OR = 2002;
        static final int PLUS = 2003;
        static final int LESS = 2004;
        static final int MORE = 2005;
        static final int FACT_LIKING = 4;
        static final int FACT_WED = 6;
        static final int FACTS = 8;

        int lines = NONE;
        private int steps;
        private final int[] kinds = new int[MOST_LINES];
        private final int[] amounts = new int[MOST_LINES];
        private final int[] stops = new int[MOST_LINES];
        private final int[] step = new int[MOST_BYTES];
        private final int[] facts = new int[FACTS];
        private final int[] stack = new int[32];

        void become(Law other) {
            lines = other.lines;
            steps = other.steps;
            System.arraycopy(other.kinds, 0, kinds, 0, kinds.length);
            System.arraycopy(other.amounts, 0, amounts, 0, amounts.length);
            System.arraycopy(other.stops, 0, stops, 0, stops.length);
            System.arraycopy(other.step, 0, step, 0, step.length);
        }

        void begin() {
            lines = 0;
            steps = 0;
        }

        void addStep(int what) {
            if (steps < step.length) {
                step[steps] = what;
                steps++;
            }
        }

        /** Makes a LINE of the steps that were added since the one before. */
        void addLine(int kind, int amount) {
            if (lines >= 0 && lines < MOST_LINES) {
                kinds[lines] = kind;
                amounts[lines] = amount;
                stops[lines] = steps;
                lines++;
            }
        }

        int bindsBy(House house, int one, int other, int sip, int many) {
            consider(house, one, other, sip, many);
            return Math.min(STRONGEST, house.binds + sum(BIND));
        }

        int lastsFor(House house, int one, int other, int sip, int many) {
            consider(house, one, other, sip, many);
            return house.lasts + sum(LAST);
        }

        int suspectsBy(House house, int one, int other) {
            if (lines == NONE) {
                return 5;
            }
            consider(house, one, other, 0, 0);
            return sum(SUSPECT);
        }

        private void consider(House house, int one, int other, int sip, int many) {
            facts[0] = one;
            facts[1] = other;
            facts[2] = sip;
            facts[3] = many;
            facts[FACT_LIKING] = house.likingOf(one, other) + house.likingOf(other, one);
            facts[5] = house.today;
            facts[FACT_WED] = house.mate[one] == other ? 1 : 0;
            facts[7] = house.holds(one, other) ? 1 : 0;
        }

        private int sum(int kind) {
            int sum = 0;
            for (int line = 0; line < lines; line++) {
                if (kinds[line] == kind && isTrue(line)) {
                    sum += amounts[line];
                }
            }
            return sum;
        }

        private boolean isTrue(int line) {
            int top = 0;
            for (int at = line == 0 ? 0 : stops[line - 1]; at < stops[line]; at++) {
                int what = step[at];
                if (what < NOT) {
                    if (top < stack.length) {
                        stack[top] = what < FACT ? what : facts[what - FACT];
                        top++;
                    }
                } else if (what == NOT) {
                    if (top > 0) {
                        stack[top - 1] = 1 - stack[top - 1];
                    }
                } else if (top > 1) {
                    top--;
                    stack[top - 1] = joined(what, stack[top - 1], stack[top]);
                }
            }
            return top == 0 || stack[0] != 0;
        }

        private static int joined(int sign, int left, int right) {
            switch (sign) {
                case AND:
                    return left & right;
                case OR:
                    return left | right;
                case PLUS:
                    return left + right;
                case LESS:
                    return left < right ? 1 : 0;
                default:
                    return left > right ? 1 : 0;
            }
        }
    }

    /** Reads THE LAW. Where it answers false, the tape stands at the first wrong byte. */
    private static final class LawText {
        private static final int DEEPEST = 6;

        private final Tape tape;

        LawText(Tape tape) {
            this.tape = tape;
        }

        boolean tells(Law law) {
            law.begin();
            tape.begin();
            if (tape.isOver()) {
                return true;
            }
            for (int line = 0; line < Law.MOST_LINES; line++) {
                if (!tellsLine(law)) {
                    return false;
                }
                if (tape.isOver()) {
                    return true;
                }
                if (!tape.skipSign(';')) {
                    return false;
                }
            }
            return false;
        }

        private boolean tellsLine(Law law) {
            int kind = tape.wordAmong("bind last suspect");
            if (kind == NONE) {
                return false;
            }
            tape.advance();
            int amount = tape.number(0, 99);
            if (amount == NONE) {
                return false;
            }
            tape.advance();
            if (tape.skipWord("if") && !tellsCondition(law, 0)) {
                return false;
            }
            law.addLine(kind, amount);
            return true;
        }

        /** ALL { or ALL }, where each ALL is ATOM { and ATOM }: an ALL that is whole is joined to those before. */
        private boolean tellsCondition(Law law, int deep) {
            boolean or = false;
            boolean and = false;
            for (int atom = 0; atom < MOST_BYTES; atom++) {
                if (!tellsAtom(law, deep)) {
                    return false;
                }
                if (and) {
                    law.addStep(Law.AND);
                }
                and = tape.skipWord("and");
                if (and) {
                    continue;
                }
                if (or) {
                    law.addStep(Law.OR);
                }
                or = tape.skipWord("or");
                if (!or) {
                    return true;
                }
            }
            return false;
        }

        private boolean tellsAtom(Law law, int deep) {
            boolean not = tape.wordAmong("not") == 0;
            if (not || tape.isSign('(')) {
                if (deep >= DEEPEST) {
                    return false;
                }
                tape.advance();
                if (!not) {
                    return tellsCondition(law, deep + 1) && tape.skipSign(')');
                }
                boolean right = tellsAtom(law, deep + 1);
                law.addStep(Law.NOT);
                return right;
            }
            int fact = tape.wordAmong("wed bound");
            if (fact != NONE) {
                law.addStep(Law.FACT + Law.FACT_WED + fact);
                tape.advance();
                return true;
            }
            if (!tellsSum(law)) {
                return false;
            }
            int sign = tape.isSign('<') ? Law.LESS : tape.isSign('>') ? Law.MORE : NONE;
            if (sign == NONE) {
                return false;
            }
            tape.advance();
            boolean right = tellsSum(law);
            law.addStep(sign);
            return right;
        }

        private boolean tellsSum(Law law) {
            for (int part = 0; part < MOST_BYTES; part++) {
                int number = tape.number(0, 999);
                int fact = tape.wordAmong("one other sip many liking day");
                if (number == NONE && fact == NONE) {
                    return false;
                }
                law.addStep(number != NONE ? number : Law.FACT + fact);
                tape.advance();
                if (part > 0) {
                    law.addStep(Law.PLUS);
                }
                if (!tape.isSign('+')) {
                    return true;
                }
                tape.advance();
            }
            return false;
        }
    }

    /** What a cup makes of each two who share it. */
    private static final class Cup {
        private final House house;
        private final Law law;
        private final int[] newly = new int[MOST_PEOPLE];

        Cup(House house, Law law) {
            this.house = house;
            this.law = law;
        }

        /** How many pairs it changes; the bonds stay as they are, if it only would be shared. */
        int pour(int set, int sip, boolean stays) {
            int many = Integer.bitCount(set);
            int changed = 0;
            for (int one = 0; one < house.people; one++) {
                for (int other = one + 1; other < house.people; other++) {
                    int both = 1 << one | 1 << other;
                    if ((set & both) == both && changes(one, other, sip, many, stays)) {
                        changed++;
                    }
                }
            }
            return changed;
        }

        private boolean changes(int one, int other, int sip, int many, boolean stays) {
            int force = force(one, other, sip, many);
            if (force == 0) {
                return false;
            }
            int till = reach(one, other, sip, many);
            int strongBefore = house.held(one, other);
            int tillBefore = house.heldTill(one, other);
            if (stays) {
                house.tie(one, other, Math.max(strongBefore, force), Math.max(tillBefore, till));
            }
            return force > strongBefore || till > tillBefore;
        }

        private int force(int one, int other, int sip, int many) {
            int binds = law.bindsBy(house, one, other, sip, many);
            switch (sip) {
                case 0:
                    return binds;
                case 1:
                    return binds / 2;
                case 2:
                    return Math.min(STRONGEST, binds * 2);
                default:
                    return 0;
            }
        }

        private int reach(int one, int other, int sip, int many) {
            return Math.min(LAST_DAY, house.today + law.lastsFor(house, one, other, sip, many));
        }

        /** The set of so many behind whose cup the most bonds hold: no cup ends one, so those count that hold newly. */
        int binding(int sip, int many) {
            foresee(sip, many);
            int best = NONE;
            int most = NONE;
            for (int set = 0; set <= house.everybody(); set++) {
                if (Integer.bitCount(set) == many && newlyWithin(set) > most) {
                    most = newlyWithin(set);
                    best = set;
                }
            }
            return best;
        }

        /** What a cup makes of two hangs on how many share it, not on who: so each pair is asked once. */
        private void foresee(int sip, int many) {
            for (int one = 0; one < house.people; one++) {
                newly[one] = 0;
                for (int other = one + 1; other < house.people; other++) {
                    if (!house.holds(one, other) && force(one, other, sip, many) > 0
                            && house.today < reach(one, other, sip, many)) {
                        newly[one] |= 1 << other;
                    }
                }
            }
        }

        private int newlyWithin(int set) {
            int pairs = 0;
            for (int one = 0; one < house.people; one++) {
                if ((set & 1 << one) != 0) {
                    pairs += Integer.bitCount(newly[one] & set);
                }
            }
            return pairs;
        }
    }

    /** Days that pass in a house. */
    private static final class Calendar {
        /** So many days, with draws, or else all who are bound go: on how many of them nobody leaves a footprint. */
        static int pass(House house, Law law, int n, boolean draws) {
            int quiet = 0;
            for (int day = 0; day < n; day++) {
                int before = house.footprints;
                move(house, draws);
                meet(house, law);
                house.today = Math.min(LAST_DAY, house.today + 1);
                if (house.footprints == before) {
                    quiet++;
                }
            }
            return quiet;
        }

        private static void move(House house, boolean draws) {
            for (int person = 0; person < house.people; person++) {
                int most = house.closest(person);
                if (most != NONE && (!draws || house.draw() % 10 < house.held(person, most))) {
                    house.room[person] = house.room[most];
                }
            }
        }

        private static void meet(House house, Law law) {
            for (int one = 0; one < house.people; one++) {
                for (int other = one + 1; other < house.people; other++) {
                    if (house.room[one] != house.room[other]) {
                        continue;
                    }
                    house.met[one] |= 1 << other;
                    house.met[other] |= 1 << one;
                    if ((house.flour & 1 << house.room[one]) != 0 && house.isSecret(one, other)) {
                        house.leaveFootprint(one, other, law.suspectsBy(house, one, other));
                    }
                }
            }
        }
    }

    /** Who comes to whom by bonds that hold. */
    private static final class Ties {
        private final House house;

        Ties(House house) {
            this.house = house;
        }

        /** A set, and all who are bound to one of it. */
        private int widened(int set) {
            int wider = set;
            for (int person = 0; person < house.people; person++) {
                if ((set & 1 << person) != 0) {
                    wider |= house.boundTo(person);
                }
            }
            return wider;
        }

        int around(int person) {
            int set = 1 << person;
            for (int step = 1; step < house.people; step++) {
                set = widened(set);
            }
            return set;
        }

        int steps(int person, int other) {
            int set = 1 << person;
            for (int step = 0; step < house.people; step++) {
                if ((set & 1 << other) != 0) {
                    return step;
                }
                set = widened(set);
            }
            return NONE;
        }

        int groups() {
            int many = 0;
            for (int person = 0; person < house.people; person++) {
                int circle = around(person);
                // a circle counts once: with the least of those who are in it
                if (circle != 1 << person && Integer.lowestOneBit(circle) == 1 << person) {
                    many++;
                }
            }
            return many;
        }

        int holding() {
            int many = 0;
            for (int person = 0; person < house.people; person++) {
                many += Integer.bitCount(house.boundTo(person));
            }
            return many / 2;
        }

        int hidden() {
            int many = 0;
            for (int one = 0; one < house.people; one++) {
                for (int other = one + 1; other < house.people; other++) {
                    if (house.isSecret(one, other)) {
                        many++;
                    }
                }
            }
            return many;
        }

        int lastDay() {
            int last = house.today;
            for (int one = 0; one < house.people; one++) {
                for (int other = one + 1; other < house.people; other++) {
                    last = Math.max(last, house.heldTill(one, other));
                }
            }
            return last;
        }

        int unboundOn(int day) {
            int bound = 0;
            for (int one = 0; one < house.people; one++) {
                for (int other = one + 1; other < house.people; other++) {
                    if (house.holdsOn(one, other, day)) {
                        bound |= 1 << one | 1 << other;
                    }
                }
            }
            return house.everybody() & ~bound;
        }

        int centre() {
            int best = 0;
            int most = NONE;
            for (int person = 0; person < house.people; person++) {
                int many = Integer.bitCount(house.boundTo(person));
                if (many > best) {
                    best = many;
                    most = person;
                }
            }
            return most;
        }

        /** Two are parted when a set with the one, without the other, has no bond to the rest: so the least such set's. */
        int cut(int person, int other) {
            int fewest = MOST_PEOPLE * MOST_PEOPLE;
            for (int set = 0; set <= house.everybody(); set++) {
                if ((set & 1 << person) != 0 && (set & 1 << other) == 0) {
                    fewest = Math.min(fewest, leaving(set));
                }
            }
            return fewest;
        }

        private int leaving(int set) {
            int many = 0;
            for (int person = 0; person < house.people; person++) {
                if ((set & 1 << person) != 0) {
                    many += Integer.bitCount(house.boundTo(person) & ~set);
                }
            }
            return many;
        }

        /** The fewest of whom one at least is in each secret. */
        int cover() {
            int best = house.everybody();
            for (int set = 0; set <= house.everybody(); set++) {
                if (Integer.bitCount(set) < Integer.bitCount(best) && knowsAll(set)) {
                    best = set;
                }
            }
            return best;
        }

        private boolean knowsAll(int set) {
            for (int one = 0; one < house.people; one++) {
                for (int other = one + 1; other < house.people; other++) {
                    if ((set & (1 << one | 1 << other)) == 0 && house.isSecret(one, other)) {
                        return false;
                    }
                }
            }
            return true;
        }
    }

    /** Whom people like, and how they may be put into pairs. */
    private static final class Pairing {
        private final House house;
        private final int[] has = new int[MOST_PEOPLE];
        final int[] first = new int[MOST_PEOPLE];
        int ways;

        Pairing(House house) {
            this.house = house;
        }

        int gladder(int person) {
            int most = house.closest(person);
            int level = most == NONE ? 0 : house.likingOf(person, most);
            int bits = 0;
            for (int other = 0; other < house.people; other++) {
                if (other != person && house.likingOf(person, other) > level) {
                    bits |= 1 << other;
                }
            }
            return bits;
        }

        private boolean areLovers(int one, int other) {
            return (gladder(one) & 1 << other) != 0 && (gladder(other) & 1 << one) != 0;
        }

        int manyLovers() {
            int many = 0;
            for (int one = 0; one < house.people; one++) {
                for (int other = one + 1; other < house.people; other++) {
                    if (areLovers(one, other)) {
                        many++;
                    }
                }
            }
            return many;
        }

        int firstLovers() {
            for (int one = 0; one < house.people; one++) {
                for (int other = one + 1; other < house.people; other++) {
                    if (areLovers(one, other)) {
                        return 10 * one + other;
                    }
                }
            }
            return NONE;
        }

        /** Goes through all ways in their order; counts those that nobody would leave, and keeps the first of them. */
        void settle() {
            ways = 0;
            for (int person = 0; person < MOST_PEOPLE; person++) {
                has[person] = NONE;
            }
            place(0, house.people % 2 == 1);
        }

        private void place(int person, boolean oneLeftOut) {
            if (person >= house.people) {
                keepIfSteady();
                return;
            }
            if (has[person] != NONE) {
                place(person + 1, oneLeftOut);
                return;
            }
            if (oneLeftOut) {
                has[person] = person;
                place(person + 1, false);
                has[person] = NONE;
            }
            for (int other = person + 1; other < house.people; other++) {
                if (has[other] == NONE) {
                    has[person] = other;
                    has[other] = person;
                    place(person + 1, oneLeftOut);
                    has[person] = NONE;
                    has[other] = NONE;
                }
            }
        }

        private void keepIfSteady() {
            for (int one = 0; one < house.people; one++) {
                for (int other = one + 1; other < house.people; other++) {
                    if (wouldLeave(one, other) && wouldLeave(other, one)) {
                        return;
                    }
                }
            }
            if (ways == 0) {
                System.arraycopy(has, 0, first, 0, has.length);
            }
            ways++;
        }

        private boolean wouldLeave(int person, int other) {
            int level = has[person] == person ? NONE : house.likingOf(person, has[person]);
            return house.likingOf(person, other) > level;
        }

        int greatest() {
            return greatestFrom(0, house.everybody());
        }

        /** The greatest liking of pairs among those who are left, all of them from a person on. */
        private int greatestFrom(int person, int left) {
            if (person >= house.people) {
                return 0;
            }
            int best = greatestFrom(person + 1, left);
            if ((left & 1 << person) == 0) {
                return best;
            }
            for (int other = person + 1; other < house.people; other++) {
                if ((left & 1 << other) != 0) {
                    int both = house.likingOf(person, other) + house.likingOf(other, person);
                    best = Math.max(best, both + greatestFrom(person + 1, left & ~(1 << other)));
                }
            }
            return best;
        }
    }

    /** Rooms in a round, and the flour on their floors. */
    private static final class Floors {
        private final House house;

        Floors(House house) {
            this.house = house;
        }

        int steps(int from, int to) {
            int up = stepsRound(from, to, 1);
            int down = stepsRound(from, to, ALL_ROOMS - 1);
            if (up == NONE || down == NONE) {
                return Math.max(up, down);
            }
            return Math.min(up, down);
        }

        private int stepsRound(int from, int to, int turn) {
            int at = from;
            for (int steps = 0; steps < ALL_ROOMS; steps++) {
                if (at == to) {
                    return steps;
                }
                at = (at + turn) % ALL_ROOMS;
                if ((house.flour & 1 << at) != 0) {
                    return NONE;
                }
            }
            return NONE;
        }

        int meeting(int fromOne, int fromOther) {
            int best = 2 * ALL_ROOMS;
            int where = NONE;
            for (int room = 0; room < ALL_ROOMS; room++) {
                int one = steps(fromOne, room);
                int other = steps(fromOther, room);
                boolean open = (house.flour & 1 << room) == 0;
                if (open && one != NONE && other != NONE && one + other < best) {
                    best = one + other;
                    where = room;
                }
            }
            return where;
        }

        int catching(int many) {
            int best = NONE;
            int bestCaught = NONE;
            for (int set = 0; set < 1 << ALL_ROOMS; set++) {
                if (Integer.bitCount(set) == many && caught(set) > bestCaught) {
                    bestCaught = caught(set);
                    best = set;
                }
            }
            return best;
        }

        int caught(int rooms) {
            int many = 0;
            for (int one = 0; one < house.people; one++) {
                for (int other = one + 1; other < house.people; other++) {
                    int room = house.room[one];
                    if (room == house.room[other] && (rooms & 1 << room) != 0 && house.isSecret(one, other)) {
                        many++;
                    }
                }
            }
            return many;
        }
    }

    /** The sets of people that fit what the tape tells of who drank. */
    private static final class Drinkers {
        private static final int ROW_BYTES = 3;
        private static final int MOST_TOLD = 36;

        private final House house;
        private final Tape tape;
        private final int[] in = new int[MOST_PEOPLE];
        int sets;
        int inAll;

        Drinkers(House house, Tape tape) {
            this.house = house;
            this.tape = tape;
        }

        /** Whether the tape tells such rows; then the sets that fit are weighed. */
        boolean weigh() {
            if (!isTold()) {
                return false;
            }
            sets = 0;
            inAll = house.everybody();
            for (int person = 0; person < MOST_PEOPLE; person++) {
                in[person] = 0;
            }
            for (int set = 0; set <= house.everybody(); set++) {
                if (fits(set)) {
                    add(set);
                }
            }
            if (sets == 0) {
                inAll = 0;
            }
            return true;
        }

        private boolean isTold() {
            if (tape.length > MOST_TOLD || tape.length % ROW_BYTES != 0) {
                return false;
            }
            for (int at = 0; at + 2 < tape.length; at += ROW_BYTES) {
                if (tape.bytes[at] > tape.bytes[at + 1] || !house.has(tape.bytes[at + 1])) {
                    return false;
                }
            }
            return true;
        }

        private boolean fits(int set) {
            for (int at = 0; at + 2 < tape.length; at += ROW_BYTES) {
                int row = (2 << tape.bytes[at + 1]) - (1 << tape.bytes[at]);
                if (Integer.bitCount(set & row) != tape.bytes[at + 2]) {
                    return false;
                }
            }
            return true;
        }

        private void add(int set) {
            sets++;
            inAll &= set;
            for (int person = 0; person < house.people; person++) {
                if ((set & 1 << person) != 0) {
                    in[person]++;
                }
            }
        }

        /** The one by whom the sets are parted best; NONE, if there is nothing to part. */
        int parting() {
            if (sets < 2) {
                return NONE;
            }
            int best = sets + 1;
            int who = NONE;
            for (int person = 0; person < house.people; person++) {
                int greater = Math.max(in[person], sets - in[person]);
                if (greater < best) {
                    best = greater;
                    who = person;
                }
            }
            return who;
        }
    }
}
