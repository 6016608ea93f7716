import java.util.ArrayDeque;
import java.util.ArrayList;
import java.util.HashMap;
import java.util.List;
import java.util.Map;
import java.util.NoSuchElementException;
import java.util.TreeMap;
import java.util.TreeSet;
import java.util.function.IntPredicate;
import java.util.function.ToIntFunction;
import java.util.regex.Matcher;
import java.util.regex.Pattern;

/** The document once more, in the plainest way and with the whole library: what ModelTest holds the class against. */
public final class Model {
    /** What a condition asks of two. */
    record Ask(State s, int one, int other, int sip, int many) { }

    interface Cond {
        boolean of(Ask ask);
    }

    record Line(String kind, int n, Cond cond) { }

    record Row(int day, int one, int other, int room) { }

    static final class State {
        List<Integer> room = new ArrayList<>();
        Map<Integer, Integer> wed = new TreeMap<>();
        Map<Integer, Integer> suspected = new TreeMap<>();
        Map<Integer, TreeSet<Integer>> met = new TreeMap<>();
        Map<List<Integer>, Integer> liking = new HashMap<>();
        Map<List<Integer>, int[]> bond = new HashMap<>();
        int flour;
        int binds = 5;
        int lasts = 100;
        int day;
        int seed = 1;
        int texts;
        int prints;
        List<Row> log = new ArrayList<>();
        List<Line> law;

        State copy() {
            State s = new State();
            s.room = new ArrayList<>(room);
            s.wed = new TreeMap<>(wed);
            s.suspected = new TreeMap<>(suspected);
            for (int p : met.keySet()) {
                s.met.put(p, new TreeSet<>(met.get(p)));
            }
            s.liking = new HashMap<>(liking);
            for (List<Integer> two : bond.keySet()) {
                s.bond.put(two, bond.get(two).clone());
            }
            s.flour = flour;
            s.binds = binds;
            s.lasts = lasts;
            s.day = day;
            s.seed = seed;
            s.texts = texts;
            s.prints = prints;
            s.log = new ArrayList<>(log);
            s.law = law;
            return s;
        }

        int n() {
            return room.size();
        }

        int likes(int a, int b) {
            return liking.getOrDefault(List.of(a, b), 0);
        }

        int[] raw(int a, int b) {
            return bond.getOrDefault(List.of(Math.min(a, b), Math.max(a, b)), new int[] {0, 0});
        }

        void bind(int a, int b, int strong, int till) {
            bond.put(List.of(Math.min(a, b), Math.max(a, b)), new int[] {strong, till});
        }

        boolean holds(int a, int b) {
            return a != b && raw(a, b)[0] > 0 && day < raw(a, b)[1];
        }

        int strong(int a, int b) {
            return holds(a, b) ? raw(a, b)[0] : 0;
        }

        boolean wedded(int a, int b) {
            return wed.getOrDefault(a, -1) == b;
        }

        boolean secret(int a, int b) {
            return holds(a, b) && !wedded(a, b);
        }

        int most(int p) {
            int best = -1;
            for (int q = n() - 1; q >= 0; q--) {
                if (holds(p, q) && (best < 0 || strong(p, q) >= strong(p, best))) {
                    best = q;
                }
            }
            return best;
        }

        int by(String kind, int a, int b, int sip, int many) {
            int sum = 0;
            for (Line line : law == null ? List.<Line>of() : law) {
                boolean suspect = kind.equals("suspect");
                Ask ask = new Ask(this, Math.min(a, b), Math.max(a, b), suspect ? 0 : sip, suspect ? 0 : many);
                if (line.kind().equals(kind) && line.cond().of(ask)) {
                    sum += line.n();
                }
            }
            return switch (kind) {
                case "bind" -> Math.min(9, binds + sum);
                case "last" -> lasts + sum;
                default -> law == null ? 5 : sum;
            };
        }

        int cup(int set, int sip) {
            int changed = 0;
            for (int[] two : pairs()) {
                int a = two[0];
                int b = two[1];
                if ((set >> a & 1) == 0 || (set >> b & 1) == 0) {
                    continue;
                }
                int many = Integer.bitCount(set);
                int force = by("bind", a, b, sip, many);
                force = sip == 1 ? force / 2 : sip == 2 ? Math.min(9, 2 * force) : sip == 3 ? 0 : force;
                if (force == 0) {
                    continue;
                }
                int till = Math.min(9999, day + by("last", a, b, sip, many));
                boolean held = holds(a, b);
                int oldStrong = strong(a, b);
                int oldTill = held ? raw(a, b)[1] : -1;
                bind(a, b, Math.max(oldStrong, force), Math.max(oldTill, till));
                if (raw(a, b)[0] > oldStrong || held && raw(a, b)[1] > oldTill) {
                    changed++;
                }
            }
            return changed;
        }

        List<int[]> pairs() {
            List<int[]> list = new ArrayList<>();
            for (int a = 0; a < n(); a++) {
                for (int b = a + 1; b < n(); b++) {
                    list.add(new int[] {a, b});
                }
            }
            return list;
        }

        int pairsThat(java.util.function.BiPredicate<Integer, Integer> test) {
            return (int) pairs().stream().filter(t -> test.test(t[0], t[1])).count();
        }

        /** One more day; how many footprints. */
        int oneDay(boolean draws) {
            for (int p = 0; p < n(); p++) {
                int m = most(p);
                if (m < 0) {
                    continue;
                }
                boolean goes = true;
                if (draws) {
                    seed = (int) (1103515245L * seed + 12345L);
                    goes = (seed >> 16 & 32767) % 10 < strong(p, m);
                }
                if (goes) {
                    room.set(p, room.get(m));
                }
            }
            int now = 0;
            for (int[] two : pairs()) {
                int a = two[0];
                int b = two[1];
                if (!room.get(a).equals(room.get(b))) {
                    continue;
                }
                met.computeIfAbsent(a, k -> new TreeSet<>()).add(b);
                met.computeIfAbsent(b, k -> new TreeSet<>()).add(a);
                if (secret(a, b) && (flour >> room.get(a) & 1) == 1) {
                    int more = by("suspect", a, b, 0, 0);
                    suspected.put(a, Math.min(99, suspected.getOrDefault(a, 0) + more));
                    suspected.put(b, Math.min(99, suspected.getOrDefault(b, 0) + more));
                    log.add(new Row(day, a, b, room.get(a)));
                    if (log.size() > 60) {
                        log.remove(0);
                    }
                    now++;
                }
            }
            prints += now;
            day = Math.min(9999, day + 1);
            return now;
        }

        int allSuspected() {
            return suspected.values().stream().mapToInt(v -> v).sum();
        }

        TreeSet<Integer> circle(int p) {
            TreeSet<Integer> seen = new TreeSet<>();
            ArrayDeque<Integer> todo = new ArrayDeque<>(List.of(p));
            while (!todo.isEmpty()) {
                int at = todo.pop();
                if (seen.add(at)) {
                    for (int q = 0; q < n(); q++) {
                        if (holds(at, q)) {
                            todo.push(q);
                        }
                    }
                }
            }
            return seen;
        }

        int gladder(int p) {
            int m = most(p);
            return bits(n(), q -> q != p && likes(p, q) > (m < 0 ? 0 : likes(p, m)));
        }
    }

    static final class Wrong extends Exception {
        private static final long serialVersionUID = 1;
        final int at;

        Wrong(int at) {
            this.at = at;
        }
    }

    private State s = new State();
    private final ArrayDeque<State> past = new ArrayDeque<>();
    private State image;
    private final StringBuilder tape = new StringBuilder();
    private int fault = -1;

    static int bits(int n, IntPredicate test) {
        int bits = 0;
        for (int i = 0; i < n; i++) {
            if (test.test(i)) {
                bits |= 1 << i;
            }
        }
        return bits;
    }

    private static int bits(Iterable<Integer> set) {
        int bits = 0;
        for (int i : set) {
            bits |= 1 << i;
        }
        return bits;
    }

    private int all() {
        return (1 << s.n()) - 1;
    }

    /** Of all sets of so many bits the one with the best value, the least of several. */
    private static int bestSet(int bits, IntPredicate among, ToIntFunction<Integer> value) {
        int best = -1;
        for (int set = (1 << bits) - 1; set >= 0; set--) {
            if (among.test(set) && (best < 0 || value.applyAsInt(set) >= value.applyAsInt(best))) {
                best = set;
            }
        }
        return best;
    }

    // ---- reading

    /** What stands on the tape, thing by thing; the last one is empty and stands at the text's length. */
    private static final class Reader {
        private static final Pattern THING = Pattern.compile("[a-z]+|[0-9]+|[^ ]", Pattern.DOTALL);
        final List<String> things = new ArrayList<>();
        final List<Integer> places = new ArrayList<>();
        int at;

        Reader(String text) {
            Matcher m = THING.matcher(text);
            while (m.find()) {
                things.add(m.group());
                places.add(m.start());
            }
            things.add("");
            places.add(text.length());
        }

        String now() {
            return things.get(at);
        }

        boolean over() {
            return now().isEmpty();
        }

        Wrong wrong() {
            return new Wrong(places.get(at));
        }

        void need(boolean right) throws Wrong {
            if (!right) {
                throw wrong();
            }
        }

        boolean may(String thing) {
            if (now().equals(thing)) {
                at++;
                return true;
            }
            return false;
        }

        void must(String thing) throws Wrong {
            need(may(thing));
        }

        int number(int least, int most) throws Wrong {
            need(now().matches("[0-9]{1,3}"));
            int n = Integer.parseInt(now());
            need(n >= least && n <= most);
            at++;
            return n;
        }
    }

    private static void readHouse(String text, State s) throws Wrong {
        Reader r = new Reader(text);
        for (int lines = 0; !(lines == 0 && r.over()); lines++) {
            r.need(lines < 14);
            readHouseLine(r, s);
            if (r.over()) {
                return;
            }
            r.must(";");
        }
    }

    private static void readHouseLine(Reader r, State s) throws Wrong {
        switch (r.now()) {
            case "person" -> {
                r.need(s.n() < 8);
                r.at++;
                r.must("at");
                s.room.add(r.number(0, 5));
            }
            case "likes" -> {
                r.at++;
                int p = r.number(0, s.n() - 1);
                r.need(r.now().matches("[0-9]{" + s.n() + "}"));
                for (int q = 0; q < s.n(); q++) {
                    s.liking.put(List.of(p, q), r.now().charAt(q) - '0');
                }
                r.at++;
            }
            case "wed" -> {
                r.at++;
                int p = r.number(0, s.n() - 1);
                r.at--;
                r.need(!s.wed.containsKey(p));
                r.at++;
                int q = r.number(0, s.n() - 1);
                r.at--;
                r.need(q != p && !s.wed.containsKey(q));
                r.at++;
                s.wed.put(p, q);
                s.wed.put(q, p);
            }
            case "flour" -> {
                r.at++;
                r.need(r.now().matches("[a-f]+") && r.now().chars().distinct().count() == r.now().length());
                s.flour = r.now().chars().map(c -> 1 << c - 'a').sum();
                r.at++;
            }
            case "bond" -> {
                r.at++;
                int p = r.number(0, s.n() - 1);
                int q = r.number(0, s.n() - 1);
                r.at--;
                r.need(p != q);
                r.at++;
                int strong = r.number(1, 9);
                r.must("till");
                s.bind(p, q, strong, r.number(1, 999));
            }
            case "binds" -> {
                r.at++;
                s.binds = r.number(1, 9);
            }
            case "lasts" -> {
                r.at++;
                s.lasts = r.number(1, 400);
            }
            case "day" -> {
                r.at++;
                s.day = r.number(0, 999);
            }
            default -> throw r.wrong();
        }
    }

    private static List<Line> readLaw(String text) throws Wrong {
        Reader r = new Reader(text);
        List<Line> lines = new ArrayList<>();
        while (!(lines.isEmpty() && r.over())) {
            r.need(lines.size() < 12);
            String kind = r.now();
            r.need(List.of("bind", "last", "suspect").contains(kind));
            r.at++;
            int n = r.number(0, 99);
            lines.add(new Line(kind, n, r.may("if") ? readOr(r, 0) : ask -> true));
            if (r.over()) {
                break;
            }
            r.must(";");
        }
        return lines;
    }

    private static Cond readOr(Reader r, int deep) throws Wrong {
        List<Cond> list = new ArrayList<>();
        do {
            list.add(readAnd(r, deep));
        } while (r.may("or"));
        return ask -> list.stream().anyMatch(c -> c.of(ask));
    }

    private static Cond readAnd(Reader r, int deep) throws Wrong {
        List<Cond> list = new ArrayList<>();
        do {
            list.add(readAtom(r, deep));
        } while (r.may("and"));
        return ask -> list.stream().allMatch(c -> c.of(ask));
    }

    private static Cond readAtom(Reader r, int deep) throws Wrong {
        if (r.now().equals("not")) {
            r.need(deep < 6);
            r.at++;
            Cond c = readAtom(r, deep + 1);
            return ask -> !c.of(ask);
        }
        if (r.now().equals("(")) {
            r.need(deep < 6);
            r.at++;
            Cond c = readOr(r, deep + 1);
            r.must(")");
            return c;
        }
        if (r.may("wed")) {
            return ask -> ask.s().wedded(ask.one(), ask.other());
        }
        if (r.may("bound")) {
            return ask -> ask.s().holds(ask.one(), ask.other());
        }
        ToIntFunction<Ask> left = readSum(r);
        boolean less = r.now().equals("<");
        r.need(less || r.now().equals(">"));
        r.at++;
        ToIntFunction<Ask> right = readSum(r);
        return ask -> less ? left.applyAsInt(ask) < right.applyAsInt(ask) : left.applyAsInt(ask) > right.applyAsInt(ask);
    }

    private static ToIntFunction<Ask> readSum(Reader r) throws Wrong {
        List<ToIntFunction<Ask>> parts = new ArrayList<>();
        do {
            if (r.may("one")) {
                parts.add(Ask::one);
            } else if (r.may("other")) {
                parts.add(Ask::other);
            } else if (r.may("sip")) {
                parts.add(Ask::sip);
            } else if (r.may("many")) {
                parts.add(Ask::many);
            } else if (r.may("liking")) {
                parts.add(k -> k.s().likes(k.one(), k.other()) + k.s().likes(k.other(), k.one()));
            } else if (r.may("day")) {
                parts.add(k -> k.s().day);
            } else {
                int n = r.number(0, 999);
                parts.add(k -> n);
            }
        } while (r.may("+"));
        return ask -> parts.stream().mapToInt(p -> p.applyAsInt(ask)).sum();
    }

    private String useTape() {
        String text = tape.toString();
        tape.setLength(0);
        return text;
    }

    // ---- the face

    public int feed(int a, int b, int c, int d, int e) {
        if (tape.length() > 380) {
            return -1;
        }
        for (int n : new int[] {a, b, c, d, e}) {
            for (byte x : java.nio.ByteBuffer.allocate(4).putInt(n).array()) {
                tape.append((char) (x & 255));
            }
        }
        return tape.length();
    }

    public boolean end(int n) {
        boolean can = n >= 0 && n <= tape.length();
        if (can) {
            tape.setLength(n);
        }
        return can;
    }

    public int house() {
        State next = s.copy();
        fault = -1;
        try {
            readHouse(useTape(), next);
        } catch (Wrong w) {
            fault = w.at;
            throw new IllegalArgumentException();
        }
        if (s.texts == 12) {
            throw new UnsupportedOperationException();
        }
        s = next;
        past.clear();
        return ++s.texts;
    }

    public int law() {
        fault = -1;
        try {
            s.law = readLaw(useTape());
        } catch (Wrong w) {
            fault = w.at;
            throw new IllegalArgumentException();
        }
        past.clear();
        return s.law.size();
    }

    public int fault() {
        return fault;
    }

    private void aPerson(int... list) {
        for (int p : list) {
            if (p < 0 || p >= s.n()) {
                throw new IndexOutOfBoundsException();
            }
        }
    }

    private void aRoom(int r) {
        if (r < 0 || r > 5) {
            throw new IndexOutOfBoundsException();
        }
    }

    private void that(boolean right) {
        if (!right) {
            throw new IllegalArgumentException();
        }
    }

    private void two(int p, int q) {
        aPerson(p, q);
        that(p != q);
    }

    public int person(int p, int what) {
        aPerson(p);
        return switch (what) {
            case 0 -> s.room.get(p);
            case 1 -> s.wed.getOrDefault(p, -1);
            case 2 -> s.suspected.getOrDefault(p, 0);
            case 3 -> bits(met(p));
            case 4 -> bits(s.n(), q -> s.holds(p, q));
            case 5 -> bits(s.circle(p));
            case 6 -> s.gladder(p);
            case 7 -> s.most(p);
            default -> throw new NoSuchElementException();
        };
    }

    private TreeSet<Integer> met(int p) {
        return s.met.getOrDefault(p, new TreeSet<>());
    }

    public int liking(int p, int q) {
        two(p, q);
        return s.likes(p, q);
    }

    public int bond(int p, int q, boolean till) {
        two(p, q);
        return !s.holds(p, q) ? till ? -1 : 0 : s.raw(p, q)[till ? 1 : 0];
    }

    public int told(int p, int q, int sip, int many, int what) {
        two(p, q);
        that(sip >= 0 && sip <= 3 && many >= 2 && many <= 8);
        if (what < 0 || what > 2) {
            throw new NoSuchElementException();
        }
        return s.by(List.of("bind", "last", "suspect").get(what), p, q, sip, many);
    }

    private void act() {
        past.push(s.copy());
        if (past.size() > 12) {
            past.removeLast();
        }
    }

    public int share(int people, int sip) {
        that(Integer.bitCount(people & all()) >= 2 && sip >= 0 && sip <= 3);
        act();
        return s.cup(people & all(), sip);
    }

    public int wash(int p, int q) {
        two(p, q);
        act();
        int was = s.strong(p, q);
        s.bind(p, q, 0, 0);
        return was;
    }

    public int go(int p, int room) {
        aPerson(p);
        aRoom(room);
        act();
        return s.room.set(p, room);
    }

    public boolean strew(int room, boolean flour) {
        aRoom(room);
        act();
        boolean had = (s.flour >> room & 1) == 1;
        if (had != flour) {
            s.flour ^= 1 << room;
        }
        return had != flour;
    }

    public void wed(int p, int q) {
        two(p, q);
        if (s.wed.containsKey(p) || s.wed.containsKey(q)) {
            throw new IllegalStateException();
        }
        act();
        s.wed.put(p, q);
        s.wed.put(q, p);
    }

    public int clear(int p) {
        aPerson(p);
        act();
        Integer was = s.suspected.put(p, 0);
        return was == null ? 0 : was;
    }

    public int days(int n) {
        that(n >= 1 && n <= 60);
        act();
        int sum = 0;
        for (int i = 0; i < n; i++) {
            sum += s.oneDay(true);
        }
        return sum;
    }

    public int circles() {
        TreeSet<String> names = new TreeSet<>();
        for (int p = 0; p < s.n(); p++) {
            if (s.circle(p).size() > 1) {
                names.add(s.circle(p).toString());
            }
        }
        return names.size();
    }

    public int ends() {
        State t = s.copy();
        while (t.pairsThat(t::holds) > 0) {
            t.day++;
        }
        return t.day;
    }

    public int free(int day) {
        that(day >= 0 && day <= 9999);
        State t = s.copy();
        t.day = day;
        return bits(s.n(), p -> t.most(p) < 0);
    }

    public int secrets() {
        return s.pairsThat(s::secret);
    }

    public int would(int people, int sip) {
        that(Integer.bitCount(people & all()) >= 2 && sip >= 0 && sip <= 3);
        return s.copy().cup(people & all(), sip);
    }

    public int widest(int sip, int k) {
        that(sip >= 0 && sip <= 3 && k >= 2 && k <= 8);
        return bestSet(s.n(), set -> Integer.bitCount(set) == k, set -> {
            State t = s.copy();
            t.cup(set, sip);
            return t.pairsThat(t::holds);
        });
    }

    public int parts(int p, int q) {
        two(p, q);
        State t = s.copy();
        int flow = 0;
        // the fewest bonds that part two are as many as the ways without a common bond, turned round where it is better
        Map<List<Integer>, Integer> room = new HashMap<>();
        for (int a = 0; a < t.n(); a++) {
            for (int b = 0; b < t.n(); b++) {
                room.put(List.of(a, b), t.holds(a, b) ? 1 : 0);
            }
        }
        while (augment(p, q, room, new TreeSet<>())) {
            flow++;
        }
        return flow;
    }

    private boolean augment(int at, int to, Map<List<Integer>, Integer> room, TreeSet<Integer> seen) {
        if (at == to) {
            return true;
        }
        if (!seen.add(at)) {
            return false;
        }
        for (int next = 0; next < s.n(); next++) {
            if (room.get(List.of(at, next)) > 0 && augment(next, to, room, seen)) {
                room.merge(List.of(at, next), -1, Integer::sum);
                room.merge(List.of(next, at), 1, Integer::sum);
                return true;
            }
        }
        return false;
    }

    private List<Integer> loverPairs() {
        List<Integer> list = new ArrayList<>();
        for (int[] two : s.pairs()) {
            if ((s.gladder(two[0]) >> two[1] & 1) == 1 && (s.gladder(two[1]) >> two[0] & 1) == 1) {
                list.add(10 * two[0] + two[1]);
            }
        }
        return list;
    }

    public int lovers(boolean first) {
        List<Integer> list = loverPairs();
        return !first ? list.size() : list.isEmpty() ? -1 : list.get(0);
    }

    /** All ways to have one another, where who has oneself is left out. */
    private List<int[]> allWays(int leftOut) {
        List<int[]> list = new ArrayList<>();
        List<int[]> todo = new ArrayList<>();
        int[] none = new int[s.n()];
        java.util.Arrays.fill(none, -1);
        todo.add(none);
        for (int p = 0; p < s.n(); p++) {
            List<int[]> next = new ArrayList<>();
            for (int[] way : todo) {
                if (way[p] >= 0) {
                    next.add(way);
                    continue;
                }
                for (int q = p; q < s.n(); q++) {
                    if (way[q] < 0) {
                        int[] more = way.clone();
                        more[p] = q;
                        more[q] = p;
                        next.add(more);
                    }
                }
            }
            todo = next;
        }
        for (int[] way : todo) {
            int alone = 0;
            for (int p = 0; p < s.n(); p++) {
                alone += way[p] == p ? 1 : 0;
            }
            if (leftOut < 0 || alone == leftOut) {
                list.add(way);
            }
        }
        list.sort(java.util.Arrays::compare);
        return list;
    }

    public int steady(int p) {
        if (p != -1) {
            aPerson(p);
        }
        List<int[]> ways = allWays(s.n() % 2);
        ways.removeIf(way -> s.pairsThat((a, b) -> longs(way, a, b) && longs(way, b, a)) > 0);
        return p == -1 ? ways.size() : ways.isEmpty() ? -1 : ways.get(0)[p];
    }

    private boolean longs(int[] way, int a, int b) {
        return s.likes(a, b) > (way[a] == a ? -1 : s.likes(a, way[a]));
    }

    public int fondest() {
        int best = 0;
        for (int[] way : allWays(-1)) {
            int sum = 0;
            for (int p = 0; p < s.n(); p++) {
                sum += way[p] == p ? 0 : s.likes(p, way[p]);
            }
            best = Math.max(best, sum);
        }
        return best;
    }

    public int tell() {
        return bestSet(s.n(), set -> s.pairsThat((a, b) -> s.secret(a, b) && (set >> a & 1) == 0 && (set >> b & 1) == 0) == 0,
            set -> -Integer.bitCount(set));
    }

    public int between(int p, int q) {
        aPerson(p, q);
        int[] far = new int[s.n()];
        java.util.Arrays.fill(far, 99);
        far[p] = 0;
        for (int round = 0; round < s.n(); round++) {
            for (int a = 0; a < s.n(); a++) {
                for (int b = 0; b < s.n(); b++) {
                    if (s.holds(a, b)) {
                        far[b] = Math.min(far[b], far[a] + 1);
                    }
                }
            }
        }
        return far[q] >= 99 ? -1 : far[q];
    }

    public int hub() {
        int best = -1;
        for (int p = 0; p < s.n(); p++) {
            int many = Integer.bitCount(person(p, 4));
            if (many > 0 && (best < 0 || many > Integer.bitCount(person(best, 4)))) {
                best = p;
            }
        }
        return best;
    }

    private List<Integer> drinkers() {
        String t = useTape();
        that(t.length() <= 36 && t.length() % 3 == 0);
        for (int i = 0; i < t.length(); i += 3) {
            that(t.charAt(i) <= t.charAt(i + 1) && t.charAt(i + 1) < s.n());
        }
        List<Integer> list = new ArrayList<>();
        for (int set = 0; set <= all(); set++) {
            boolean fits = true;
            for (int i = 0; i < t.length(); i += 3) {
                int drank = 0;
                for (int p = t.charAt(i); p <= t.charAt(i + 1); p++) {
                    drank += set >> p & 1;
                }
                fits &= drank == t.charAt(i + 2);
            }
            if (fits) {
                list.add(set);
            }
        }
        return list;
    }

    public int drank(boolean sure) {
        List<Integer> list = drinkers();
        return !sure ? list.size() : list.isEmpty() ? 0 : list.stream().reduce((a, b) -> a & b).get();
    }

    public int look() {
        List<Integer> list = drinkers();
        if (list.size() < 2) {
            return -1;
        }
        int best = -1;
        int least = 999;
        for (int p = 0; p < s.n(); p++) {
            int who = p;
            int in = (int) list.stream().filter(set -> (set >> who & 1) == 1).count();
            int part = Math.max(in, list.size() - in);
            if (part < least) {
                least = part;
                best = p;
            }
        }
        return best;
    }

    private int walk(int from, int to) {
        int[] far = {99, 99, 99, 99, 99, 99};
        far[from] = 0;
        for (int round = 0; round < 6; round++) {
            for (int r = 0; r < 6; r++) {
                if ((s.flour >> r & 1) == 0) {
                    far[r] = Math.min(far[r], 1 + Math.min(far[(r + 1) % 6], far[(r + 5) % 6]));
                }
            }
        }
        return far[to] >= 99 ? -1 : far[to];
    }

    public int way(int p, int room) {
        aPerson(p);
        aRoom(room);
        return walk(s.room.get(p), room);
    }

    public int unseen(int p, int q) {
        two(p, q);
        int best = -1;
        int least = 999;
        for (int r = 0; r < 6; r++) {
            int a = way(p, r);
            int b = way(q, r);
            if ((s.flour >> r & 1) == 0 && a >= 0 && b >= 0 && a + b < least) {
                least = a + b;
                best = r;
            }
        }
        return best;
    }

    public int trap(int k, boolean much) {
        that(k >= 1 && k <= 6);
        ToIntFunction<Integer> caught = set -> s.pairsThat((a, b) -> s.secret(a, b) && s.room.get(a).equals(s.room.get(b))
            && (set >> s.room.get(a) & 1) == 1);
        int best = bestSet(6, set -> Integer.bitCount(set) == k, caught);
        return much ? caught.applyAsInt(best) : best;
    }

    public boolean oath(int p, int people) {
        aPerson(p);
        return met(p).stream().allMatch(q -> (people >> q & 1) == 1);
    }

    public int shortest(int p) {
        aPerson(p);
        return met(p).size();
    }

    public int alibi(int p) {
        aPerson(p);
        return bits(s.n(), q -> met(p).contains(q) && met(q).stream().allMatch(x -> x == p));
    }

    public int odds(int p, int q) {
        two(p, q);
        return s.most(p) < 0 || s.most(q) < 0 ? 0 : s.strong(p, s.most(p)) * s.strong(q, s.most(q));
    }

    public int ahead(int p, int n, boolean suspected) {
        aPerson(p);
        that(n >= 0 && n <= 400);
        State t = s.copy();
        for (int i = 0; i < n; i++) {
            t.oneDay(false);
        }
        return suspected ? t.suspected.getOrDefault(p, 0) : t.room.get(p);
    }

    public int calm(int n) {
        that(n >= 0 && n <= 400);
        State t = s.copy();
        int calm = 0;
        for (int i = 0; i < n; i++) {
            calm += t.oneDay(false) == 0 ? 1 : 0;
        }
        return calm;
    }

    public int trial(int n, boolean suspected) {
        that(n >= 0 && n <= 60);
        State t = s.copy();
        int sum = 0;
        for (int i = 0; i < n; i++) {
            sum += t.oneDay(true);
        }
        return suspected ? t.allSuspected() : sum;
    }

    public int span(int n, boolean most) {
        that(n >= 0 && n <= 60);
        TreeSet<Integer> all = new TreeSet<>();
        for (int seed = 1; seed <= 6; seed++) {
            State t = s.copy();
            t.seed = seed;
            int sum = 0;
            for (int i = 0; i < n; i++) {
                sum += t.oneDay(true);
            }
            all.add(sum);
        }
        return most ? all.last() : all.first();
    }

    public int led(int p, boolean room) {
        aPerson(p);
        List<Row> rows = s.log.stream().filter(r -> r.one() == p || r.other() == p).toList();
        return !room ? rows.size() : rows.isEmpty() ? -1 : rows.get(rows.size() - 1).room();
    }

    public int log(int ago, int what) {
        if (what < 0 || what > 3) {
            throw new NoSuchElementException();
        }
        if (ago < 0 || ago >= s.log.size()) {
            return -1;
        }
        Row r = s.log.get(s.log.size() - 1 - ago);
        return new int[] {r.day(), r.one(), r.other(), r.room()}[what];
    }

    public int seed(int n) {
        int was = s.seed;
        s.seed = n;
        return was;
    }

    public boolean undo() {
        if (past.isEmpty()) {
            return false;
        }
        s = past.pop();
        return true;
    }

    public void image() {
        image = s.copy();
    }

    public boolean back() {
        if (image == null) {
            return false;
        }
        s = image.copy();
        past.clear();
        return true;
    }

    public int count(int what) {
        return switch (what) {
            case 0 -> s.n();
            case 1 -> s.texts;
            case 2 -> s.law == null ? -1 : s.law.size();
            case 3 -> s.day;
            case 4 -> s.flour;
            case 5 -> s.binds;
            case 6 -> s.lasts;
            case 7 -> s.allSuspected();
            case 8 -> s.wed.size() / 2;
            case 9 -> s.pairsThat(s::holds);
            case 10 -> s.prints;
            case 11 -> s.log.size();
            case 12 -> past.size();
            default -> -1;
        };
    }
}
