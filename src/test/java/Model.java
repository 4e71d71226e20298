import java.util.ArrayDeque;
import java.util.ArrayList;
import java.util.Deque;
import java.util.List;
import java.util.NoSuchElementException;
import java.util.TreeSet;

/**
 * The document once more, in the plainest Java and by other ways than the class (whole searches instead of
 * shortcuts), so that runs of calls can be held against it. Texts do not come as bytes, but as lines made by
 * the test, which writes the bytes beside them.
 */
final class Model {
    interface Condition {
        boolean of(Model m, int person);
    }

    interface Sum {
        int of(Model m, int person);
    }

    static final class Line {
        final String kind;
        final int amount;
        final Condition condition;

        Line(String kind, int amount, Condition condition) {
            this.kind = kind;
            this.amount = amount;
            this.condition = condition;
        }
    }

    static final class Person {
        int age;
        int grip;
        int heir = -1;
        boolean tied;
        boolean living = true;

        Person copy() {
            Person c = new Person();
            c.age = age;
            c.grip = grip;
            c.heir = heir;
            c.tied = tied;
            c.living = living;
            return c;
        }
    }

    static final class Thing {
        int worth;
        int size;
        int owner;
        int hand = -1;
        int cloth = -1;

        Thing copy() {
            Thing c = new Thing();
            c.worth = worth;
            c.size = size;
            c.owner = owner;
            c.hand = hand;
            c.cloth = cloth;
            return c;
        }

        boolean by() {
            return hand < 0 && cloth < 0;
        }

        void putBy() {
            hand = -1;
            cloth = -1;
        }
    }

    List<Person> people = new ArrayList<>();
    List<Thing> things = new ArrayList<>();
    List<Line> law = null;
    List<int[]> log = new ArrayList<>();
    int night = 0;
    int death = 0;
    int witnesses = 2;
    int seed = 1;
    int texts = 0;
    Deque<Model> past = new ArrayDeque<>();
    Model image = null;

    Model copy() {
        Model c = new Model();
        c.take(this);
        return c;
    }

    private void take(Model o) {
        people = new ArrayList<>();
        for (Person p : o.people) {
            people.add(p.copy());
        }
        things = new ArrayList<>();
        for (Thing t : o.things) {
            things.add(t.copy());
        }
        law = o.law;
        log = new ArrayList<>(o.log);
        night = o.night;
        death = o.death;
        witnesses = o.witnesses;
        seed = o.seed;
        texts = o.texts;
    }

    // ---- what is so

    private Person needPerson(int p) {
        if (p < 0 || p >= people.size()) {
            throw new IndexOutOfBoundsException();
        }
        return people.get(p);
    }

    private Thing needThing(int t) {
        if (t < 0 || t >= things.size()) {
            throw new IndexOutOfBoundsException();
        }
        return things.get(t);
    }

    private static void number(boolean can) {
        if (!can) {
            throw new IllegalArgumentException();
        }
    }

    private static void state(boolean can) {
        if (!can) {
            throw new IllegalStateException();
        }
    }

    int holding(int p) {
        for (int t = 0; t < things.size(); t++) {
            if (things.get(t).hand == p) {
                return t;
            }
        }
        return -1;
    }

    List<Integer> cloth(int p) {
        List<Integer> all = new ArrayList<>();
        for (int t = 0; t < things.size(); t++) {
            if (things.get(t).cloth == p) {
                all.add(t);
            }
        }
        return all;
    }

    List<Integer> owned(int p) {
        List<Integer> all = new ArrayList<>();
        for (int t = 0; t < things.size(); t++) {
            if (things.get(t).owner == p) {
                all.add(t);
            }
        }
        return all;
    }

    static int bits(Iterable<Integer> all) {
        int bits = 0;
        for (int i : all) {
            bits |= 1 << i;
        }
        return bits;
    }

    int worth(Iterable<Integer> all) {
        int sum = 0;
        for (int t : all) {
            sum += things.get(t).worth;
        }
        return sum;
    }

    int successor(int p) {
        int others = 0;
        for (int q = 0; q < people.size(); q++) {
            if (q != p && people.get(q).living) {
                others++;
            }
        }
        if (others < witnesses) {
            return -1;
        }
        TreeSet<Integer> met = new TreeSet<>();
        int q = people.get(p).heir;
        while (q >= 0 && met.add(q)) {
            if (q != p && people.get(q).living) {
                return q;
            }
            q = people.get(q).heir;
        }
        return -1;
    }

    private int lawSum(String kind, int p) {
        int sum = 0;
        if (law != null) {
            for (Line l : law) {
                if (l.kind.equals(kind) && (l.condition == null || l.condition.of(this, p))) {
                    sum += l.amount;
                }
            }
        }
        return sum;
    }

    int grips(int p) {
        int g = people.get(p).grip + lawSum("grip", p) - lawSum("slip", p);
        if (people.get(p).tied) {
            g += 2;
        }
        return g < 0 ? 0 : g;
    }

    int fails(int p) {
        int f = death + people.get(p).age / 5 + lawSum("fail", p);
        return f > 100 ? 100 : f;
    }

    int estate(int p) {
        int t = holding(p);
        boolean has = t >= 0 && things.get(t).owner == p && people.get(p).living && successor(p) >= 0;
        return has ? things.get(t).worth : 0;
    }

    int lost(int p) {
        return people.get(p).living ? worth(owned(p)) - estate(p) : 0;
    }

    TreeSet<Integer> line(int p) {
        TreeSet<Integer> met = new TreeSet<>();
        int q = people.get(p).heir;
        while (q >= 0 && met.add(q)) {
            q = people.get(q).heir;
        }
        return met;
    }

    int hangs(int p) {
        int bits = 0;
        for (int q = 0; q < people.size(); q++) {
            if (people.get(q).living && successor(q) == p) {
                bits |= 1 << q;
            }
        }
        return bits;
    }

    int hoped(int p) {
        if (!people.get(p).living || holding(p) >= 0 || cloth(p).isEmpty()) {
            return 0;
        }
        int sum = 0;
        for (int t : cloth(p)) {
            sum += things.get(t).size <= grips(p) ? things.get(t).worth : 0;
        }
        return 100 * sum / cloth(p).size();
    }

    int core(int p) {
        List<Integer> left = new ArrayList<>();
        for (int q = 0; q < people.size(); q++) {
            if (people.get(q).living && holding(q) >= 0) {
                left.add(q);
            }
        }
        while (!left.isEmpty()) {
            int[] likes = new int[people.size()];
            for (int q : left) {
                likes[q] = liked(q, left);
            }
            List<Integer> going = new ArrayList<>();
            for (int q : left) {
                TreeSet<Integer> met = new TreeSet<>();
                int at = q;
                while (met.add(at)) {
                    at = things.get(likes[at]).hand;
                }
                if (at == q) {
                    going.add(q);
                }
            }
            if (going.contains(p)) {
                return likes[p];
            }
            left.removeAll(going);
        }
        return -1;
    }

    private int liked(int p, List<Integer> holders) {
        int best = -1;
        for (int t = 0; t < things.size(); t++) {
            Thing thing = things.get(t);
            boolean may = holders.contains(thing.hand) && (thing.hand == p || thing.size <= grips(p));
            if (may && (best < 0 || thing.worth > things.get(best).worth)) {
                best = t;
            }
        }
        return best;
    }

    List<Integer> all() {
        List<Integer> all = new ArrayList<>();
        for (int t = 0; t < things.size(); t++) {
            all.add(t);
        }
        return all;
    }

    long person(int p, int what) {
        Person q = needPerson(p);
        switch (what) {
            case 0: return q.age;
            case 1: return q.grip;
            case 2: return q.heir;
            case 3: return q.tied ? 1 : 0;
            case 4: return q.living ? 1 : 0;
            case 5: return holding(p);
            case 6: return grips(p);
            case 7: return fails(p);
            case 8: return bits(owned(p));
            case 9: return bits(cloth(p));
            case 10: return successor(p);
            case 11: return estate(p);
            case 12: return lost(p);
            case 13: return bits(line(p));
            case 14: return hangs(p);
            case 15: return hoped(p);
            case 16: return core(p);
            case 17: return worth(all()) == 0 ? 0 : 100 * worth(owned(p)) / worth(all());
            default: throw new NoSuchElementException();
        }
    }

    long thing(int t, int what) {
        Thing u = needThing(t);
        switch (what) {
            case 0: return u.worth;
            case 1: return u.size;
            case 2: return u.owner;
            case 3: return u.hand >= 0 ? 1 : u.cloth >= 0 ? 2 : 0;
            case 4: return Math.max(u.hand, u.cloth);
            default: throw new NoSuchElementException();
        }
    }

    long shuts(int p, int t) {
        Person q = needPerson(p);
        Thing u = needThing(t);
        boolean may = u.cloth == p && q.living && holding(p) < 0 && u.size <= grips(p);
        return may ? 10000 / cloth(p).size() : 0;
    }

    // ---- nights

    private int draw() {
        seed = 1103515245 * seed + 12345;
        return (seed & 0x7fffffff) >> 16;
    }

    private void row(int p, int kind, int t) {
        log.add(new int[] {night, p, kind, t, people.get(p).age});
        if (log.size() > 60) {
            log.remove(0);
        }
    }

    private void partA() {
        for (int p = 0; p < people.size(); p++) {
            int t = holding(p);
            if (people.get(p).living && t >= 0 && things.get(t).size > grips(p)) {
                things.get(t).hand = -1;
                things.get(t).cloth = p;
                row(p, 0, t);
            }
        }
    }

    private void partB() {
        for (int p = 0; p < people.size(); p++) {
            if (people.get(p).living && holding(p) < 0 && !cloth(p).isEmpty()) {
                int t = cloth(p).get(draw() % cloth(p).size());
                boolean holds = things.get(t).size <= grips(p);
                if (holds) {
                    things.get(t).cloth = -1;
                    things.get(t).hand = p;
                }
                row(p, holds ? 1 : 2, t);
            }
        }
    }

    private int partC() {
        int died = 0;
        for (int p = 0; p < people.size(); p++) {
            Person q = people.get(p);
            if (!q.living) {
                continue;
            }
            if (night % 10 == 9 && q.age < 99) {
                q.age++;
            }
            if (draw() % 100 < fails(p)) {
                int held = holding(p);
                int next = successor(p);
                row(p, 3, held);
                for (int t : owned(p)) {
                    things.get(t).owner = t == held ? next : -1;
                    things.get(t).putBy();
                }
                for (int t = 0; t < things.size(); t++) {
                    if (things.get(t).hand == p || things.get(t).cloth == p) {
                        things.get(t).putBy();
                    }
                }
                q.living = false;
                died++;
            }
        }
        return died;
    }

    private void nextNight() {
        night = night < 9999 ? night + 1 : 9999;
    }

    int pass(int n) {
        int died = 0;
        for (int i = 0; i < n; i++) {
            partA();
            partB();
            died += partC();
            nextNight();
        }
        return died;
    }

    // ---- acts

    private void remember() {
        past.push(copy());
        if (past.size() > 12) {
            past.removeLast();
        }
    }

    long nights(int n) {
        number(n >= 1 && n <= 60);
        remember();
        return pass(n);
    }

    long lay(int t, int p) {
        Thing u = needThing(t);
        Person q = needPerson(p);
        state(u.by() && u.owner >= 0 && q.living);
        remember();
        u.cloth = p;
        return cloth(p).size();
    }

    long clear(int t) {
        Thing u = needThing(t);
        state(u.cloth >= 0);
        remember();
        int was = u.cloth;
        u.putBy();
        return was;
    }

    long wake(int t) {
        Thing u = needThing(t);
        state(u.by() && u.owner >= 0);
        state(holding(u.owner) < 0 && u.size <= grips(u.owner));
        remember();
        u.hand = u.owner;
        return u.owner;
    }

    long open(int p) {
        needPerson(p);
        int t = holding(p);
        state(t >= 0);
        remember();
        things.get(t).putBy();
        return t;
    }

    long swap(int p, int o) {
        needPerson(p);
        needPerson(o);
        number(p != o);
        state(people.get(p).living && people.get(o).living);
        remember();
        int mine = holding(p);
        int theirs = holding(o);
        if (mine >= 0) {
            things.get(mine).hand = o;
            things.get(mine).owner = o;
        }
        if (theirs >= 0) {
            things.get(theirs).hand = p;
            things.get(theirs).owner = p;
        }
        return theirs;
    }

    long heir(int p, int o) {
        needPerson(p);
        if (o != -1) {
            needPerson(o);
        }
        number(p != o);
        remember();
        int was = people.get(p).heir;
        people.get(p).heir = o;
        return was;
    }

    long tie(int p, boolean is) {
        needPerson(p);
        remember();
        boolean was = people.get(p).tied;
        people.get(p).tied = is;
        return was != is ? 1 : 0;
    }

    void addPerson(int age, int grip, int heir, boolean tied) {
        Person q = new Person();
        q.age = age;
        q.grip = grip;
        q.heir = heir;
        q.tied = tied;
        people.add(q);
    }

    void addThing(int worth, int size, int owner, int hand, int cloth) {
        Thing u = new Thing();
        u.worth = worth;
        u.size = size;
        u.owner = owner;
        u.hand = hand;
        u.cloth = cloth;
        things.add(u);
    }

    long born(int grip) {
        number(grip >= 0 && grip <= 9);
        state(people.size() < 7);
        remember();
        addPerson(0, grip, -1, false);
        return people.size() - 1;
    }

    long give(int t, int p) {
        Thing u = needThing(t);
        Person q = needPerson(p);
        state(u.by() && u.owner >= 0 && q.living && u.owner != p);
        remember();
        int was = u.owner;
        u.owner = p;
        return was;
    }

    // ---- reckonings

    long hoard(int p, int w, boolean which) {
        needPerson(p);
        number(w >= 0 && w <= 120);
        int best = 0;
        List<Integer> own = owned(p);
        for (int set = 0; set < 1 << own.size(); set++) {
            List<Integer> some = new ArrayList<>();
            int size = 0;
            for (int i = 0; i < own.size(); i++) {
                if ((set >> i & 1) == 1) {
                    some.add(own.get(i));
                    size += things.get(own.get(i)).size;
                }
            }
            if (size <= w && better(bits(some), best)) {
                best = bits(some);
            }
        }
        return which ? best : worthOfBits(best);
    }

    private int worthOfBits(int bits) {
        int sum = 0;
        for (int t = 0; t < things.size(); t++) {
            sum += (bits >> t & 1) == 1 ? things.get(t).worth : 0;
        }
        return sum;
    }

    private boolean better(int set, int than) {
        if (worthOfBits(set) != worthOfBits(than)) {
            return worthOfBits(set) > worthOfBits(than);
        }
        if (Integer.bitCount(set) != Integer.bitCount(than)) {
            return Integer.bitCount(set) < Integer.bitCount(than);
        }
        return set < than;
    }

    long round() {
        int bits = 0;
        for (int p = 0; p < people.size(); p++) {
            bits |= line(p).contains(p) ? 1 << p : 0;
        }
        return bits;
    }

    long escheat() {
        int bits = 0;
        for (int p = 0; p < people.size(); p++) {
            bits |= people.get(p).living && successor(p) < 0 ? 1 << p : 0;
        }
        return bits;
    }

    long living() {
        int bits = 0;
        for (int p = 0; p < people.size(); p++) {
            bits |= people.get(p).living ? 1 << p : 0;
        }
        return bits;
    }

    long watch() {
        for (int many = 0; many <= 7; many++) {
            for (int set = 0; set < 128; set++) {
                if (Integer.bitCount(set) == many && (set & ~living()) == 0 && watches(set)) {
                    return set;
                }
            }
        }
        return -99;
    }

    private boolean watches(int set) {
        for (int p = 0; p < people.size(); p++) {
            int reach = 1 << p;
            if (successor(p) >= 0) {
                reach |= 1 << successor(p);
            }
            if (people.get(p).living && (reach & set) == 0) {
                return false;
            }
        }
        return true;
    }

    long put(int person) {
        if (person != -1) {
            needPerson(person);
        }
        int[][] best = new int[people.size() + 1][1 << things.size()];
        for (int p = people.size() - 1; p >= 0; p--) {
            for (int used = 0; used < 1 << things.size(); used++) {
                best[p][used] = best[p + 1][used];
                for (int t = 0; t < things.size() && people.get(p).living; t++) {
                    if ((used >> t & 1) == 0 && things.get(t).size <= grips(p)) {
                        int value = things.get(t).worth + best[p + 1][used | 1 << t];
                        best[p][used] = Math.max(best[p][used], value);
                    }
                }
            }
        }
        if (person == -1) {
            return best[0][0];
        }
        int used = 0;
        for (int p = 0; p <= person; p++) {
            int choice = -1;
            if (best[p + 1][used] != best[p][used]) {
                for (int t = things.size() - 1; t >= 0; t--) {
                    if ((used >> t & 1) == 0 && things.get(t).size <= grips(p)
                            && things.get(t).worth + best[p + 1][used | 1 << t] == best[p][used]) {
                        choice = t;
                    }
                }
                used |= 1 << choice;
            }
            if (p == person) {
                return choice;
            }
        }
        return -99;
    }

    long pairs(int person) {
        if (person != -1) {
            needPerson(person);
        }
        int[] with = new int[people.size()];
        java.util.Arrays.fill(with, -1);
        List<int[]> ways = new ArrayList<>();
        allPairs(0, with, ways);
        int[] best = null;
        for (int[] way : ways) {
            if (best == null || paired(way) > paired(best)
                    || paired(way) == paired(best) && java.util.Arrays.compare(way, best) < 0) {
                best = way;
            }
        }
        return person == -1 ? paired(best) : best[person];
    }

    private int paired(int[] way) {
        int sum = 0;
        for (int p = 0; p < way.length; p++) {
            sum += way[p] >= 0 ? people.get(p).grip : 0;
        }
        return sum;
    }

    private void allPairs(int p, int[] with, List<int[]> ways) {
        if (p == people.size()) {
            ways.add(with.clone());
            return;
        }
        allPairs(p + 1, with, ways);
        for (int q = p + 1; q < people.size() && with[p] < 0 && people.get(p).living; q++) {
            if (with[q] < 0 && people.get(q).living && people.get(p).heir != q && people.get(q).heir != p) {
                with[p] = q;
                with[q] = p;
                allPairs(p + 1, with, ways);
                with[p] = -1;
                with[q] = -1;
            }
        }
    }

    long rests(int p) {
        needPerson(p);
        int[][] heir = {{estate(p) / 10, -2}, {-(lost(p) / 10), 1}};
        int[][] nurse = {{1, 2}, {0, people.get(p).grip - 5}};
        int bits = 0;
        for (int h = 0; h < 2; h++) {
            for (int n = 0; n < 2; n++) {
                if (heir[1 - h][n] <= heir[h][n] && nurse[h][1 - n] <= nurse[h][n]) {
                    bits |= 1 << 2 * h + n;
                }
            }
        }
        return bits;
    }

    long odds(int n) {
        number(n >= 0 && n <= 4);
        int odds = 10000;
        for (int i = 0; i < n; i++) {
            for (int p = 0; p < people.size(); p++) {
                odds = people.get(p).living ? odds * (100 - fails(p)) / 100 : odds;
            }
        }
        return odds;
    }

    long most(int what) {
        if (what < 0 || what > 2) {
            throw new NoSuchElementException();
        }
        int found = -1;
        int most = -1;
        for (int p = people.size() - 1; p >= 0; p--) {
            int value = what == 0 ? people.get(p).age : what == 1 ? grips(p) : worth(owned(p));
            if (people.get(p).living && value >= most) {
                most = value;
                found = p;
            }
        }
        return found;
    }

    long idle() {
        int bits = 0;
        for (int p = 0; p < people.size(); p++) {
            bits |= people.get(p).living && holding(p) < 0 ? 1 << p : 0;
        }
        return bits;
    }

    long crown() {
        return bits(owned(-1));
    }

    long wealth() {
        return worth(owned(-1));
    }

    long twins() {
        int pairs = 0;
        for (Thing t : things) {
            for (Thing u : things) {
                pairs += t != u && t.worth == u.worth && t.size == u.size ? 1 : 0;
            }
        }
        return pairs / 2;
    }

    // ---- what is told

    private static void rows(int[] tape, int leastWhat, int mostWhat, int mostMuch) {
        number(tape.length <= 40 && tape.length % 2 == 0);
        for (int i = 0; i < tape.length; i += 2) {
            number(tape[i] >= leastWhat && tape[i] <= mostWhat && tape[i + 1] <= mostMuch);
        }
    }

    private int told(int t, int what) {
        Thing u = things.get(t);
        return what == 0 ? u.worth : what == 1 ? u.size : u.owner < 0 ? 9 : u.owner;
    }

    private int wrong(int t, int[] tape) {
        int wrong = 0;
        for (int i = 0; i < tape.length; i += 2) {
            wrong += told(t, tape[i]) == tape[i + 1] ? 0 : 1;
        }
        return wrong;
    }

    private List<Integer> fit(int[] tape) {
        rows(tape, 0, 2, 99);
        List<Integer> fit = new ArrayList<>();
        for (int t = 0; t < things.size(); t++) {
            if (wrong(t, tape) <= 1) {
                fit.add(t);
            }
        }
        return fit;
    }

    long held(int[] tape) {
        return bits(fit(tape));
    }

    long likely(int[] tape) {
        int best = -1;
        for (int t : fit(tape)) {
            if (best < 0 || wrong(t, tape) < wrong(best, tape)
                    || wrong(t, tape) == wrong(best, tape) && things.get(t).worth > things.get(best).worth) {
                best = t;
            }
        }
        return best;
    }

    long ask(int[] tape) {
        List<Integer> fit = fit(tape);
        int best = -1;
        int least = 99;
        for (int what = 0; what < 3 && fit.size() >= 2; what++) {
            int[] parts = new int[100];
            int greatest = 0;
            for (int t : fit) {
                parts[told(t, what)]++;
                greatest = Math.max(greatest, parts[told(t, what)]);
            }
            if (greatest < least) {
                least = greatest;
                best = what;
            }
        }
        return best;
    }

    private static int wrongStrength(int strength, int[] tape) {
        int wrong = 0;
        for (int i = 0; i < tape.length; i += 2) {
            int holds = strength >= tape[i] ? 1 : 0;
            wrong += holds == tape[i + 1] ? 0 : 1;
        }
        return wrong;
    }

    private static List<Integer> strengths(int[] tape) {
        rows(tape, 1, 12, 1);
        List<Integer> fit = new ArrayList<>();
        for (int s = 0; s <= 12; s++) {
            if (wrongStrength(s, tape) <= 1) {
                fit.add(s);
            }
        }
        return fit;
    }

    static long strong(int[] tape, boolean least) {
        List<Integer> fit = strengths(tape);
        if (!least) {
            return fit.size();
        }
        for (int wrong = 0; wrong <= 1; wrong++) {
            for (int s : fit) {
                if (wrongStrength(s, tape) == wrong) {
                    return s;
                }
            }
        }
        return -1;
    }

    static long test(int[] tape) {
        List<Integer> fit = strengths(tape);
        int best = -1;
        int least = 99;
        for (int size = 1; size <= 12 && fit.size() >= 2; size++) {
            int holds = 0;
            for (int s : fit) {
                holds += s >= size ? 1 : 0;
            }
            int greater = Math.max(holds, fit.size() - holds);
            if (greater < least) {
                least = greater;
                best = size;
            }
        }
        return best;
    }

    static long opens(int[] tape, int n) {
        number(tape.length <= 6 && n >= 0 && n <= 99);
        for (int b : tape) {
            number(b >= 1 && b <= 9);
        }
        Boolean[] wins = new Boolean[100];
        for (int number = 1; number <= 9; number++) {
            for (int b : tape) {
                if (b == number && b <= n && !wins(n - b, tape, wins)) {
                    return b;
                }
            }
        }
        return -1;
    }

    private static boolean wins(int n, int[] tape, Boolean[] known) {
        if (known[n] == null) {
            known[n] = false;
            for (int b : tape) {
                if (b <= n && !wins(n - b, tape, known)) {
                    known[n] = true;
                }
            }
        }
        return known[n];
    }

    // ---- nights to come, and nights that were

    long ahead(int p, int n) {
        needPerson(p);
        number(n >= 0 && n <= 60);
        Model m = copy();
        for (int i = 0; i < n; i++) {
            m.partA();
            m.nextNight();
        }
        return m.holding(p);
    }

    long trial(int n, boolean wealth) {
        number(n >= 0 && n <= 60);
        Model m = copy();
        m.pass(n);
        return wealth ? m.wealth() : m.living();
    }

    long span(int n, boolean most) {
        number(n >= 0 && n <= 60);
        TreeSet<Long> all = new TreeSet<>();
        for (int s = 1; s <= 6; s++) {
            Model m = copy();
            m.seed = s;
            m.pass(n);
            all.add(m.wealth());
        }
        return most ? all.last() : all.first();
    }

    long led(int p, boolean night) {
        needPerson(p);
        int rows = 0;
        int latest = -1;
        for (int[] row : log) {
            if (row[1] == p) {
                rows++;
                latest = row[0];
            }
        }
        return night ? latest : rows;
    }

    long log(int ago, int what) {
        if (what < 0 || what > 4) {
            throw new NoSuchElementException();
        }
        return ago < 0 || ago >= log.size() ? -2 : log.get(log.size() - 1 - ago)[what];
    }

    long seed(int n) {
        int was = seed;
        seed = n;
        return was;
    }

    long undo() {
        if (past.isEmpty()) {
            return 0;
        }
        take(past.pop());
        return 1;
    }

    void image() {
        image = copy();
    }

    long back() {
        if (image == null) {
            return 0;
        }
        take(image);
        past.clear();
        return 1;
    }

    long count(int what) {
        int hands = 0;
        int cloths = 0;
        for (Thing t : things) {
            hands += t.hand >= 0 ? 1 : 0;
            cloths += t.cloth >= 0 ? 1 : 0;
        }
        int[] counts = {people.size(), things.size(), texts, law == null ? -1 : law.size(), death, witnesses, night,
            worth(all()), hands, cloths, log.size(), past.size()};
        return what >= 0 && what < counts.length ? counts[what] : -1;
    }
}
