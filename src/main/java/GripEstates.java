import java.util.NoSuchElementException;

/** Valleys in which the left hand inherits; ../shared/DOC.md says what every call answers. */
public final class GripEstates {
    public static final int NONE = -1;

    private static final int MOST_PEOPLE = 7;
    private static final int MOST_THINGS = 10;
    private static final int MOST_TEXTS = 12;
    private static final int MOST_ACTS = 12;
    private static final int MOST_NIGHTS = 60;
    private static final int MOST_AGE = 99;
    private static final int MOST_GRIP = 9;
    private static final int MOST_WORTH = 99;
    private static final int MOST_SIZE = 12;
    private static final int MOST_IN_BASKET = 120;
    private static final int MOST_ODDS_NIGHTS = 4;
    private static final int MOST_FINGERS = 99;
    private static final int SPAN_SEEDS = 6;
    private static final int NO_ROW = -2;

    private final Tape tape = new Tape();
    private final ValleyReader valleyReader;
    private final LawReader lawReader;
    private final Told told = new Told();
    private final Matches matches = new Matches();
    private final Valley now;
    private final Valley spare;
    private final Valley image;
    private final Valley[] past = new Valley[MOST_ACTS];
    private boolean imaged = false;
    private int remembered = 0;
    private int nextPast = 0;
    private int fault = NONE;

    public GripEstates() {
        Reader reader = new Reader();
        valleyReader = new ValleyReader(reader);
        lawReader = new LawReader(reader);
        Law noLaw = new Law();
        now = new Valley(noLaw);
        spare = new Valley(noLaw);
        image = new Valley(noLaw);
        for (int i = 0; i < MOST_ACTS; i++) {
            past[i] = new Valley(noLaw);
        }
    }

    // ---- the tape and the texts

    public int feed(int a, int b, int c, int d, int e) {
        if (!tape.hasRoom()) {
            return NONE;
        }
        tape.add(a);
        tape.add(b);
        tape.add(c);
        tape.add(d);
        tape.add(e);
        return tape.length;
    }

    public boolean end(int n) {
        return tape.cut(n);
    }

    public int valley() throws IllegalArgumentException, UnsupportedOperationException {
        tape.useUp();
        spare.copyFrom(now);
        fault = valleyReader.read(tape, spare);
        needNumber(fault == NONE);
        if (now.texts >= MOST_TEXTS) {
            throw new UnsupportedOperationException();
        }
        spare.texts++;
        now.copyFrom(spare);
        forgetActs();
        return now.texts;
    }

    public int law() throws IllegalArgumentException {
        tape.useUp();
        fault = lawReader.read(tape);
        needNumber(fault == NONE);
        now.law = lawReader.made();
        forgetActs();
        return now.law.lines;
    }

    public int fault() {
        return fault;
    }

    // ---- what is so now

    public int person(int person, int what) throws IndexOutOfBoundsException, NoSuchElementException {
        needPerson(person);
        switch (what) {
            case 0: return now.age[person];
            case 1: return now.grip[person];
            case 2: return now.heir[person];
            case 3: return now.tied >> person & 1;
            case 4: return now.living >> person & 1;
            case 5: return now.holding(person);
            case 6: return now.grips(person);
            case 7: return now.fails(person);
            case 8: return now.ownedBy(person);
            case 9: return now.clothOf(person);
            case 10: return now.successor(person);
            case 11: return Estates.estate(now, person);
            case 12: return Estates.lost(now, person);
            case 13: return Estates.line(now, person);
            case 14: return Estates.hangers(now, person);
            case 15: return Estates.hoped(now, person);
            case 16: return matches.core(now, person);
            case 17: return Estates.share(now, person);
            default: throw new NoSuchElementException();
        }
    }

    public int thing(int thing, int what) throws IndexOutOfBoundsException, NoSuchElementException {
        needThing(thing);
        switch (what) {
            case 0: return now.worth[thing];
            case 1: return now.size[thing];
            case 2: return now.owner[thing];
            case 3: return now.place[thing];
            case 4: return now.whose[thing];
            default: throw new NoSuchElementException();
        }
    }

    public int shuts(int person, int thing) throws IndexOutOfBoundsException {
        needPerson(person);
        needThing(thing);
        return Estates.shutting(now, person, thing);
    }

    // ---- acts

    public int nights(int n) throws IllegalArgumentException {
        needNumber(n >= 1 && n <= MOST_NIGHTS);
        remember();
        return now.pass(n);
    }

    public int lay(int thing, int person) throws IndexOutOfBoundsException, IllegalStateException {
        needThing(thing);
        needPerson(person);
        needState(now.isFree(thing) && now.isLiving(person));
        remember();
        now.move(thing, Valley.CLOTH, person);
        return Integer.bitCount(now.clothOf(person));
    }

    public int clear(int thing) throws IndexOutOfBoundsException, IllegalStateException {
        needThing(thing);
        needState(now.place[thing] == Valley.CLOTH);
        remember();
        int whose = now.whose[thing];
        now.move(thing, Valley.BY, NONE);
        return whose;
    }

    public int wake(int thing) throws IndexOutOfBoundsException, IllegalStateException {
        needThing(thing);
        needState(now.isFree(thing));
        int owner = now.owner[thing];
        needState(now.isLiving(owner) && now.holding(owner) == NONE && now.fits(owner, thing));
        remember();
        now.move(thing, Valley.HAND, owner);
        return owner;
    }

    public int open(int person) throws IndexOutOfBoundsException, IllegalStateException {
        needPerson(person);
        int thing = now.holding(person);
        needState(thing != NONE);
        remember();
        now.move(thing, Valley.BY, NONE);
        return thing;
    }

    public int swap(int person, int other)
            throws IndexOutOfBoundsException, IllegalArgumentException, IllegalStateException {
        needPerson(person);
        needPerson(other);
        needNumber(person != other);
        needState(now.isLiving(person) && now.isLiving(other));
        remember();
        int mine = now.holding(person);
        int theirs = now.holding(other);
        now.handOver(mine, other);
        now.handOver(theirs, person);
        return theirs;
    }

    public int heir(int person, int other) throws IndexOutOfBoundsException, IllegalArgumentException {
        needPerson(person);
        if (other != NONE) {
            needPerson(other);
        }
        needNumber(person != other);
        remember();
        int before = now.heir[person];
        now.heir[person] = other;
        return before;
    }

    public boolean tie(int person, boolean is) throws IndexOutOfBoundsException {
        needPerson(person);
        remember();
        int before = now.tied;
        now.tied = is ? before | 1 << person : before & ~(1 << person);
        return now.tied != before;
    }

    public int born(int grip) throws IllegalArgumentException, IllegalStateException {
        needNumber(grip >= 0 && grip <= MOST_GRIP);
        needState(now.people < MOST_PEOPLE);
        remember();
        now.addPerson(0, grip, NONE, false);
        return now.people - 1;
    }

    public int give(int thing, int person) throws IndexOutOfBoundsException, IllegalStateException {
        needThing(thing);
        needPerson(person);
        int before = now.owner[thing];
        needState(now.isFree(thing) && now.isLiving(person) && before != person);
        remember();
        now.owner[thing] = person;
        return before;
    }

    // ---- reckonings

    public int hoard(int person, int w, boolean which)
            throws IndexOutOfBoundsException, IllegalArgumentException {
        needPerson(person);
        needNumber(w >= 0 && w <= MOST_IN_BASKET);
        int basket = Estates.basket(now, person, w);
        return which ? basket : now.worthOf(basket);
    }

    public int round() {
        int bits = 0;
        for (int p = 0; p < now.people; p++) {
            bits |= Estates.line(now, p) & 1 << p;
        }
        return bits;
    }

    public int escheat() {
        int bits = 0;
        for (int p = 0; p < now.people; p++) {
            if (now.isLiving(p) && now.successor(p) == NONE) {
                bits |= 1 << p;
            }
        }
        return bits;
    }

    public int watch() {
        return Estates.fewestWatchers(now);
    }

    public int put(int person) throws IndexOutOfBoundsException {
        if (person == NONE) {
            return matches.mostHeld(now);
        }
        needPerson(person);
        return matches.thingPutTo(now, person);
    }

    // ---- what is told on the tape

    public int held() throws IllegalArgumentException {
        tape.useUp();
        needNumber(Told.tellsThings(tape));
        return Told.fittingThings(tape, now);
    }

    public int likely() throws IllegalArgumentException {
        tape.useUp();
        needNumber(Told.tellsThings(tape));
        return Told.likeliestThing(tape, now);
    }

    public int ask() throws IllegalArgumentException {
        tape.useUp();
        needNumber(Told.tellsThings(tape));
        return Told.bestQuestion(now, Told.fittingThings(tape, now));
    }

    public int strong(boolean least) throws IllegalArgumentException {
        tape.useUp();
        needNumber(Told.tellsSizes(tape));
        return least ? Told.leastStrength(tape) : Integer.bitCount(Told.fittingStrengths(tape));
    }

    public int test() throws IllegalArgumentException {
        tape.useUp();
        needNumber(Told.tellsSizes(tape));
        return Told.bestSize(Told.fittingStrengths(tape));
    }

    public boolean fingers(int n) throws IllegalArgumentException {
        tape.useUp();
        needNumber(Told.tellsFingers(tape) && n >= 0 && n <= MOST_FINGERS);
        return told.winningOpening(tape, n) != NONE;
    }

    public int opens(int n) throws IllegalArgumentException {
        tape.useUp();
        needNumber(Told.tellsFingers(tape) && n >= 0 && n <= MOST_FINGERS);
        return told.winningOpening(tape, n);
    }

    // ---- people

    public int pairs(int person) throws IndexOutOfBoundsException {
        if (person == NONE) {
            return matches.mostPaired(now);
        }
        needPerson(person);
        return matches.partner(now, person);
    }

    public int rests(int person) throws IndexOutOfBoundsException {
        needPerson(person);
        return Estates.restingChoices(now, person);
    }

    public int odds(int n) throws IllegalArgumentException {
        needNumber(n >= 0 && n <= MOST_ODDS_NIGHTS);
        return Estates.oddsThatAllWake(now, n);
    }

    public int most(int what) throws NoSuchElementException {
        if (what < 0 || what > 2) {
            throw new NoSuchElementException();
        }
        return Estates.foremost(now, what);
    }

    public int living() {
        return now.living;
    }

    public int idle() {
        int bits = 0;
        for (int p = 0; p < now.people; p++) {
            if (now.isLiving(p) && now.holding(p) == NONE) {
                bits |= 1 << p;
            }
        }
        return bits;
    }

    public int crown() {
        return now.ownedBy(NONE);
    }

    public int wealth() {
        return now.crownWealth();
    }

    public int twins() {
        int pairs = 0;
        for (int t = 0; t < now.things; t++) {
            for (int u = 0; u < t; u++) {
                if (now.worth[t] == now.worth[u] && now.size[t] == now.size[u]) {
                    pairs++;
                }
            }
        }
        return pairs;
    }

    // ---- nights to come, and nights that were

    public int ahead(int person, int n) throws IndexOutOfBoundsException, IllegalArgumentException {
        needPerson(person);
        needNumber(n >= 0 && n <= MOST_NIGHTS);
        spare.copyFrom(now);
        spare.passLettingGo(n);
        return spare.holding(person);
    }

    public int trial(int n, boolean wealth) throws IllegalArgumentException {
        needNumber(n >= 0 && n <= MOST_NIGHTS);
        spare.copyFrom(now);
        spare.pass(n);
        return wealth ? spare.crownWealth() : spare.living;
    }

    public int span(int n, boolean most) throws IllegalArgumentException {
        needNumber(n >= 0 && n <= MOST_NIGHTS);
        int found = NONE;
        for (int seed = 1; seed <= SPAN_SEEDS; seed++) {
            spare.copyFrom(now);
            spare.seed = seed;
            spare.pass(n);
            int wealth = spare.crownWealth();
            if (found == NONE || (most ? wealth > found : wealth < found)) {
                found = wealth;
            }
        }
        return found;
    }

    public int led(int person, boolean night) throws IndexOutOfBoundsException {
        needPerson(person);
        return night ? now.log.latestNightOf(person) : now.log.rowsOf(person);
    }

    public int log(int ago, int what) throws NoSuchElementException {
        if (what < 0 || what >= Log.WIDTH) {
            throw new NoSuchElementException();
        }
        return now.log.read(ago, what);
    }

    public int seed(int n) {
        int before = now.seed;
        now.seed = n;
        return before;
    }

    public boolean undo() {
        if (remembered == 0) {
            return false;
        }
        remembered--;
        nextPast = (nextPast + MOST_ACTS - 1) % MOST_ACTS;
        now.copyFrom(past[nextPast]);
        return true;
    }

    public void image() {
        image.copyFrom(now);
        imaged = true;
    }

    public boolean back() {
        if (!imaged) {
            return false;
        }
        now.copyFrom(image);
        forgetActs();
        return true;
    }

    public int count(int what) {
        switch (what) {
            case 0: return now.people;
            case 1: return now.things;
            case 2: return now.texts;
            case 3: return now.law.lines;
            case 4: return now.death;
            case 5: return now.witnesses;
            case 6: return now.night;
            case 7: return now.worthOf(now.allThings());
            case 8: return now.howManyIn(Valley.HAND);
            case 9: return now.howManyIn(Valley.CLOTH);
            case 10: return now.log.rows;
            case 11: return remembered;
            default: return NONE;
        }
    }

    // ---- what every call leans on

    private void remember() {
        past[nextPast].copyFrom(now);
        nextPast = (nextPast + 1) % MOST_ACTS;
        remembered = Math.min(remembered + 1, MOST_ACTS);
    }

    private void forgetActs() {
        remembered = 0;
    }

    private void needPerson(int person) {
        if (!now.isPerson(person)) {
            throw new IndexOutOfBoundsException();
        }
    }

    private void needThing(int thing) {
        if (!now.isThing(thing)) {
            throw new IndexOutOfBoundsException();
        }
    }

    private static void needNumber(boolean can) {
        if (!can) {
            throw new IllegalArgumentException();
        }
    }

    private static void needState(boolean can) {
        if (!can) {
            throw new IllegalStateException();
        }
    }

    /** The bytes fed; what a call uses up stays readable until the next one is fed. */
    private static final class Tape {
        static final int MOST = 400;
        private static final int FED = 20;

        private final int[] bytes = new int[MOST];
        int length = 0;
        int used = 0;

        boolean hasRoom() {
            return length + FED <= MOST;
        }

        void add(int four) {
            for (int shift = 24; shift >= 0 && length < MOST; shift -= 8) {
                bytes[length] = four >>> shift & 255;
                length++;
            }
        }

        boolean cut(int n) {
            if (n < 0 || n > length) {
                return false;
            }
            length = n;
            return true;
        }

        void useUp() {
            used = length;
            length = 0;
        }

        int at(int i) {
            return i >= 0 && i < used ? bytes[i] : NONE;
        }
    }

    /** Words and signs of both texts; op is what a word stands for in a condition of the law. */
    private enum Token {
        END("", 0), NUMBER("", 0), WRONG("", 0),
        PERSON("person", Law.PERSON), AGE("age", Law.AGE), GRIP("grip", 0), HEIR("heir", 0),
        TIED("tied", Law.TIED), THING("thing", 0), WORTH("worth", 0), SIZE("size", Law.SIZE),
        OF("of", 0), HELD("held", 0), CLOTH("cloth", 0), CROWN("crown", 0), DEATH("death", 0),
        WITNESSES("witnesses", 0), NIGHT("night", Law.NIGHT), SLIP("slip", 0), FAIL("fail", 0),
        IF("if", 0), OR("or", 0), AND("and", 0), NOT("not", 0), OPEN("open", Law.OPEN),
        ALONE("alone", Law.ALONE), HAND("hand", Law.HAND), OWNS("owns", Law.OWNS),
        LAID("laid", Law.LAID), SEMICOLON(";", 0), OPENING("(", 0), CLOSING(")", 0),
        PLUS("+", 0), LESS("<", Law.LESS), MORE(">", Law.MORE);

        private static final Token[] ALL = values();

        private final String text;
        final int op;

        Token(String text, int op) {
            this.text = text;
            this.op = op;
        }

        boolean isPart() {
            return op >= Law.PERSON && op <= Law.NIGHT;
        }

        boolean isTruth() {
            return op >= Law.OPEN && op <= Law.ALONE;
        }

        static Token spelt(Tape tape, int from, int to) {
            for (int i = 0; i < ALL.length; i++) {
                if (ALL[i].isAt(tape, from, to)) {
                    return ALL[i];
                }
            }
            return WRONG;
        }

        private boolean isAt(Tape tape, int from, int to) {
            if (text.length() != to - from) {
                return false;
            }
            for (int i = 0; i < text.length(); i++) {
                if (text.charAt(i) != tape.at(from + i)) {
                    return false;
                }
            }
            return true;
        }
    }

    /** A text cut into tokens, and how far one has read: where one stops is the first wrong byte. */
    private static final class Reader {
        private static final int TOO_MUCH = 1000;
        private static final int MOST_DIGITS = 3;

        private final Token[] tokens = new Token[Tape.MOST + 1];
        private final int[] values = new int[Tape.MOST + 1];
        private final int[] begins = new int[Tape.MOST + 1];
        private int last = 0;
        private int at = 0;
        int taken = 0;

        void start(Tape tape) {
            last = 0;
            at = 0;
            int from = 0;
            for (int i = 0; i < Tape.MOST && from < tape.used; i++) {
                int to = endOfRun(tape, from);
                if (tape.at(from) != ' ') {
                    keep(tape, from, to);
                }
                from = to;
            }
            tokens[last] = Token.END;
            values[last] = 0;
            begins[last] = tape.used;
        }

        Token token() {
            return at >= 0 && at <= last ? tokens[at] : Token.END;
        }

        int value() {
            return at >= 0 && at <= last ? values[at] : 0;
        }

        int begin() {
            return at >= 0 && at <= last ? begins[at] : 0;
        }

        boolean take(Token token) {
            if (at >= last || tokens[at] != token) {
                return false;
            }
            at++;
            return true;
        }

        boolean takeNumber(int least, int most) {
            if (at >= last || tokens[at] != Token.NUMBER || values[at] < least || values[at] > most) {
                return false;
            }
            taken = values[at];
            at++;
            return true;
        }

        boolean takeNamed(Token name, int least, int most) {
            return take(name) && takeNumber(least, most);
        }

        void step() {
            if (at < last) {
                at++;
            }
        }

        private void keep(Tape tape, int from, int to) {
            if (last >= Tape.MOST) {
                return;
            }
            boolean number = isDigit(tape.at(from));
            tokens[last] = number ? Token.NUMBER : Token.spelt(tape, from, to);
            values[last] = number ? numberOf(tape, from, to) : 0;
            begins[last] = from;
            last++;
        }

        private static int numberOf(Tape tape, int from, int to) {
            if (to - from > MOST_DIGITS) {
                return TOO_MUCH;
            }
            int value = 0;
            for (int i = from; i < to; i++) {
                value = value * 10 + tape.at(i) - '0';
            }
            return value;
        }

        private static int endOfRun(Tape tape, int from) {
            int first = tape.at(from);
            int to = from + 1;
            if (isLetter(first)) {
                while (to < tape.used && isLetter(tape.at(to))) {
                    to++;
                }
            } else if (isDigit(first)) {
                while (to < tape.used && isDigit(tape.at(to))) {
                    to++;
                }
            }
            return to;
        }

        private static boolean isLetter(int b) {
            return b >= 'a' && b <= 'z';
        }

        private static boolean isDigit(int b) {
            return b >= '0' && b <= '9';
        }
    }

    /** Reads a text of the valley into a valley that is thrown away if the text is wrong. */
    private static final class ValleyReader {
        private static final int MOST_LINES = 14;
        private static final int MOST_DEATH = 100;
        private static final int MOST_WITNESSES = 6;
        private static final int MOST_NIGHT = 999;

        private final Reader reader;

        ValleyReader(Reader reader) {
            this.reader = reader;
        }

        /** The first wrong byte, or NONE. */
        int read(Tape tape, Valley valley) {
            reader.start(tape);
            boolean whole = reader.token() == Token.END;
            for (int line = 0; line < MOST_LINES && !whole; line++) {
                if (!readLine(valley)) {
                    return reader.begin();
                }
                whole = reader.token() == Token.END;
                if (!whole && !reader.take(Token.SEMICOLON)) {
                    return reader.begin();
                }
            }
            return whole ? NONE : reader.begin();
        }

        private boolean readLine(Valley valley) {
            Token first = reader.token();
            if (first == Token.PERSON) {
                return readPerson(valley);
            }
            if (first == Token.HEIR) {
                return readHeir(valley);
            }
            if (first == Token.THING) {
                return readThing(valley);
            }
            if (first == Token.CROWN) {
                return readCrownThing(valley);
            }
            return readSetting(valley, first);
        }

        private boolean readSetting(Valley valley, Token name) {
            if (name == Token.DEATH && reader.takeNamed(name, 0, MOST_DEATH)) {
                valley.death = reader.taken;
                return true;
            }
            if (name == Token.WITNESSES && reader.takeNamed(name, 0, MOST_WITNESSES)) {
                valley.witnesses = reader.taken;
                return true;
            }
            if (name == Token.NIGHT && reader.takeNamed(name, 0, MOST_NIGHT)) {
                valley.night = reader.taken;
                return true;
            }
            return false;
        }

        private boolean readPerson(Valley valley) {
            if (valley.people >= MOST_PEOPLE || !reader.take(Token.PERSON)
                    || !reader.takeNamed(Token.AGE, 0, MOST_AGE)) {
                return false;
            }
            int age = reader.taken;
            if (!reader.takeNamed(Token.GRIP, 0, MOST_GRIP)) {
                return false;
            }
            int grip = reader.taken;
            int heir = NONE;
            if (reader.take(Token.HEIR)) {
                if (!takeLiving(valley)) {
                    return false;
                }
                heir = reader.taken;
            }
            valley.addPerson(age, grip, heir, reader.take(Token.TIED));
            return true;
        }

        private boolean readHeir(Valley valley) {
            if (!reader.take(Token.HEIR) || !takeLiving(valley)) {
                return false;
            }
            int person = reader.taken;
            if (reader.value() == person || !takeLiving(valley)) {
                return false;
            }
            valley.heir[person] = reader.taken;
            return true;
        }

        private boolean readThing(Valley valley) {
            if (valley.things >= MOST_THINGS || !reader.take(Token.THING)
                    || !reader.takeNamed(Token.WORTH, 0, MOST_WORTH)) {
                return false;
            }
            int worth = reader.taken;
            if (!reader.takeNamed(Token.SIZE, 1, MOST_SIZE)) {
                return false;
            }
            int size = reader.taken;
            if (!reader.take(Token.OF) || !takeLiving(valley)) {
                return false;
            }
            valley.addThing(worth, size, reader.taken);
            return readPlace(valley, valley.things - 1);
        }

        private boolean readPlace(Valley valley, int thing) {
            if (reader.take(Token.HELD)) {
                if (valley.holding(reader.value()) != NONE || !takeLiving(valley)) {
                    return false;
                }
                valley.move(thing, Valley.HAND, reader.taken);
            } else if (reader.take(Token.CLOTH)) {
                if (!takeLiving(valley)) {
                    return false;
                }
                valley.move(thing, Valley.CLOTH, reader.taken);
            }
            return true;
        }

        private boolean readCrownThing(Valley valley) {
            if (valley.things >= MOST_THINGS || !reader.take(Token.CROWN)
                    || !reader.takeNamed(Token.WORTH, 0, MOST_WORTH)) {
                return false;
            }
            int worth = reader.taken;
            if (!reader.takeNamed(Token.SIZE, 1, MOST_SIZE)) {
                return false;
            }
            valley.addThing(worth, reader.taken, NONE);
            return true;
        }

        private boolean takeLiving(Valley valley) {
            return valley.isLiving(reader.value()) && reader.takeNumber(0, MOST_PEOPLE - 1);
        }
    }

    /** Reads a text of the law into rows of its own, from which a law is made if the text is right. */
    private static final class LawReader {
        private static final int MOST_AMOUNT = 40;
        private static final int MOST_IN_SUM = 999;
        private static final int MOST_DEEP = 6;
        // A text of 400 bytes has no more: of three bytes, as in 1<2, come four ops at most.
        private static final int MOST_OPS = 2 * Tape.MOST;

        private final Reader reader;
        private final int[] kinds = new int[Law.MOST_LINES];
        private final int[] amounts = new int[Law.MOST_LINES];
        private final int[] ends = new int[Law.MOST_LINES];
        private final int[] ops = new int[MOST_OPS];
        private int lines = 0;
        private int written = 0;

        LawReader(Reader reader) {
            this.reader = reader;
        }

        /** The first wrong byte, or NONE. */
        int read(Tape tape) {
            reader.start(tape);
            lines = 0;
            written = 0;
            boolean whole = reader.token() == Token.END;
            for (int line = 0; line < Law.MOST_LINES && !whole; line++) {
                if (!readLine(line)) {
                    return reader.begin();
                }
                lines = line + 1;
                whole = reader.token() == Token.END;
                if (!whole && !reader.take(Token.SEMICOLON)) {
                    return reader.begin();
                }
            }
            return whole ? NONE : reader.begin();
        }

        Law made() {
            return new Law(lines, kinds, amounts, ends, ops);
        }

        private boolean readLine(int line) {
            int kind = kindOf(reader.token());
            if (kind == NONE) {
                return false;
            }
            reader.step();
            if (!reader.takeNumber(0, MOST_AMOUNT)) {
                return false;
            }
            kinds[line] = kind;
            amounts[line] = reader.taken;
            boolean right = !reader.take(Token.IF) || anyOf(0);
            ends[line] = written;
            return right;
        }

        private static int kindOf(Token token) {
            if (token == Token.GRIP) {
                return Law.GRIP;
            }
            if (token == Token.SLIP) {
                return Law.SLIP;
            }
            return token == Token.FAIL ? Law.FAIL : NONE;
        }

        private boolean anyOf(int depth) {
            if (!allOf(depth)) {
                return false;
            }
            for (int i = 0; i < Tape.MOST && reader.take(Token.OR); i++) {
                if (!allOf(depth)) {
                    return false;
                }
                write(Law.OR);
            }
            return true;
        }

        private boolean allOf(int depth) {
            if (!atom(depth)) {
                return false;
            }
            for (int i = 0; i < Tape.MOST && reader.take(Token.AND); i++) {
                if (!atom(depth)) {
                    return false;
                }
                write(Law.AND);
            }
            return true;
        }

        private boolean atom(int depth) {
            Token first = reader.token();
            if (first == Token.NOT || first == Token.OPENING) {
                if (depth >= MOST_DEEP) {
                    return false;
                }
                reader.step();
                if (first == Token.OPENING) {
                    return anyOf(depth + 1) && reader.take(Token.CLOSING);
                }
                boolean right = atom(depth + 1);
                write(Law.NOT);
                return right;
            }
            if (first.isTruth()) {
                reader.step();
                write(first.op);
                return true;
            }
            if (!sum()) {
                return false;
            }
            Token sign = reader.token();
            if (sign != Token.LESS && sign != Token.MORE) {
                return false;
            }
            reader.step();
            write(Law.LEFT);
            boolean right = sum();
            write(sign.op);
            return right;
        }

        private boolean sum() {
            for (int i = 0; i < Tape.MOST; i++) {
                Token part = reader.token();
                if (part.isPart()) {
                    write(part.op);
                    reader.step();
                } else if (reader.takeNumber(0, MOST_IN_SUM)) {
                    write(reader.taken);
                } else {
                    return false;
                }
                if (!reader.take(Token.PLUS)) {
                    return true;
                }
            }
            return false;
        }

        private void write(int op) {
            if (written < MOST_OPS) {
                ops[written] = op;
                written++;
            }
        }
    }

    /** A law that never changes: each line's condition is a row of ops, numbers being those from 0 on. */
    private static final class Law {
        static final int MOST_LINES = 12;
        static final int GRIP = 0;
        static final int SLIP = 1;
        static final int FAIL = 2;

        static final int PERSON = -20;
        static final int AGE = -19;
        static final int HAND = -18;
        static final int OWNS = -17;
        static final int LAID = -16;
        static final int SIZE = -15;
        static final int NIGHT = -14;
        static final int OPEN = -13;
        static final int TIED = -12;
        static final int ALONE = -11;
        static final int LEFT = -10;
        static final int LESS = -9;
        static final int MORE = -8;
        static final int NOT = -7;
        static final int AND = -6;
        static final int OR = -5;

        final int lines;
        private final int[] kinds;
        private final int[] amounts;
        private final int[] ends;
        private final int[] ops;

        /** No law yet, which is not a law of no lines. */
        Law() {
            lines = NONE;
            kinds = new int[0];
            amounts = new int[0];
            ends = new int[0];
            ops = new int[0];
        }

        Law(int lines, int[] kinds, int[] amounts, int[] ends, int[] ops) {
            this.lines = lines;
            this.kinds = kinds.clone();
            this.amounts = amounts.clone();
            this.ends = ends.clone();
            this.ops = new int[lines > 0 && lines <= ends.length ? ends[lines - 1] : 0];
            System.arraycopy(ops, 0, this.ops, 0, this.ops.length);
        }

        /** The sum of all lines of a kind that hold of a person. */
        int total(Valley valley, int person, int kind) {
            int total = 0;
            int begin = 0;
            for (int line = 0; line < lines; line++) {
                if (kinds[line] == kind && holds(valley, person, begin, ends[line])) {
                    total += amounts[line];
                }
                begin = ends[line];
            }
            return total;
        }

        // The truths found so far are the bits of one number, the latest the lowest; six deep, they
        // are far fewer than its bits. The 1 below them all lets a line without a condition hold.
        private boolean holds(Valley valley, int person, int begin, int end) {
            int truths = 1;
            int left = 0;
            int sum = 0;
            for (int i = begin; i < end && i < ops.length; i++) {
                int op = ops[i];
                if (op == LEFT) {
                    left = sum;
                    sum = 0;
                } else if (op == LESS || op == MORE) {
                    boolean is = op == LESS ? left < sum : left > sum;
                    truths = truths << 1 | (is ? 1 : 0);
                    sum = 0;
                } else if (op == NOT) {
                    truths ^= 1;
                } else if (op == AND) {
                    truths = (truths & 1) == 1 ? truths >> 1 : truths >> 1 & ~1;
                } else if (op == OR) {
                    truths = truths >> 1 | truths & 1;
                } else if (op >= OPEN && op <= ALONE) {
                    truths = truths << 1 | valley.measure(op, person);
                } else {
                    sum += op >= 0 ? op : valley.measure(op, person);
                }
            }
            return (truths & 1) == 1;
        }
    }

    /** The latest rows of what came about in nights, the oldest giving way. */
    private static final class Log {
        static final int WIDTH = 5;
        static final int LET_GO = 0;
        static final int HELD = 1;
        static final int NOT_HELD = 2;
        static final int DIED = 3;
        private static final int MOST = 60;
        private static final int NIGHT = 0;
        private static final int PERSON = 1;

        private final int[] cells = new int[MOST * WIDTH];
        private int next = 0;
        int rows = 0;

        void copyFrom(Log other) {
            System.arraycopy(other.cells, 0, cells, 0, cells.length);
            next = other.next;
            rows = other.rows;
        }

        void add(int night, int person, int kind, int thing, int age) {
            int at = next * WIDTH;
            cells[at] = night;
            cells[at + 1] = person;
            cells[at + 2] = kind;
            cells[at + 3] = thing;
            cells[at + 4] = age;
            next = (next + 1) % MOST;
            rows = Math.min(rows + 1, MOST);
        }

        int read(int ago, int what) {
            if (ago < 0 || ago >= rows || what < 0 || what >= WIDTH) {
                return NO_ROW;
            }
            return cells[(next - 1 - ago + MOST) % MOST * WIDTH + what];
        }

        int rowsOf(int person) {
            int found = 0;
            for (int ago = 0; ago < rows; ago++) {
                if (read(ago, PERSON) == person) {
                    found++;
                }
            }
            return found;
        }

        int latestNightOf(int person) {
            for (int ago = 0; ago < rows; ago++) {
                if (read(ago, PERSON) == person) {
                    return read(ago, NIGHT);
                }
            }
            return NONE;
        }
    }

    /** All that acts change: people, things, nights; with the law by which it goes on. */
    private static final class Valley {
        static final int BY = 0;
        static final int HAND = 1;
        static final int CLOTH = 2;
        private static final int LAST_NIGHT = 9999;
        private static final int WOOL = 2;
        private static final int SURE = 100;

        int people = 0;
        final int[] age = new int[MOST_PEOPLE];
        final int[] grip = new int[MOST_PEOPLE];
        final int[] heir = new int[MOST_PEOPLE];
        int tied = 0;
        int living = 0;
        int things = 0;
        final int[] worth = new int[MOST_THINGS];
        final int[] size = new int[MOST_THINGS];
        final int[] owner = new int[MOST_THINGS];
        final int[] place = new int[MOST_THINGS];
        final int[] whose = new int[MOST_THINGS];
        int night = 0;
        int death = 0;
        int witnesses = 2;
        int seed = 1;
        int texts = 0;
        Law law;
        final Log log = new Log();

        Valley(Law law) {
            this.law = law;
        }

        void copyFrom(Valley other) {
            people = other.people;
            System.arraycopy(other.age, 0, age, 0, MOST_PEOPLE);
            System.arraycopy(other.grip, 0, grip, 0, MOST_PEOPLE);
            System.arraycopy(other.heir, 0, heir, 0, MOST_PEOPLE);
            tied = other.tied;
            living = other.living;
            things = other.things;
            System.arraycopy(other.worth, 0, worth, 0, MOST_THINGS);
            System.arraycopy(other.size, 0, size, 0, MOST_THINGS);
            System.arraycopy(other.owner, 0, owner, 0, MOST_THINGS);
            System.arraycopy(other.place, 0, place, 0, MOST_THINGS);
            System.arraycopy(other.whose, 0, whose, 0, MOST_THINGS);
            night = other.night;
            death = other.death;
            witnesses = other.witnesses;
            seed = other.seed;
            texts = other.texts;
            law = other.law;
            log.copyFrom(other.log);
        }

        boolean isPerson(int person) {
            return person >= 0 && person < people;
        }

        boolean isThing(int thing) {
            return thing >= 0 && thing < things;
        }

        boolean isLiving(int person) {
            return person >= 0 && person < people && (living >> person & 1) == 1;
        }

        /** Put by, and not the crown's. */
        boolean isFree(int thing) {
            return place[thing] == BY && owner[thing] != NONE;
        }

        boolean fits(int person, int thing) {
            return size[thing] <= grips(person);
        }

        int allThings() {
            return (1 << things) - 1;
        }

        int holding(int person) {
            for (int t = 0; t < things; t++) {
                if (place[t] == HAND && whose[t] == person) {
                    return t;
                }
            }
            return NONE;
        }

        /** Of NONE those of the crown. */
        int ownedBy(int person) {
            int bits = 0;
            for (int t = 0; t < things; t++) {
                if (owner[t] == person) {
                    bits |= 1 << t;
                }
            }
            return bits;
        }

        int clothOf(int person) {
            int bits = 0;
            for (int t = 0; t < things; t++) {
                if (place[t] == CLOTH && whose[t] == person) {
                    bits |= 1 << t;
                }
            }
            return bits;
        }

        int howManyIn(int where) {
            int found = 0;
            for (int t = 0; t < things; t++) {
                if (place[t] == where) {
                    found++;
                }
            }
            return found;
        }

        int worthOf(int bits) {
            int sum = 0;
            for (int t = 0; t < things; t++) {
                sum += (bits >> t & 1) * worth[t];
            }
            return sum;
        }

        int crownWealth() {
            return worthOf(ownedBy(NONE));
        }

        int successor(int person) {
            int others = 0;
            for (int p = 0; p < people; p++) {
                others += p == person ? 0 : living >> p & 1;
            }
            if (others < witnesses) {
                return NONE;
            }
            int next = heir[person];
            for (int step = 0; step < people && next != NONE; step++) {
                if (next != person && (living >> next & 1) == 1) {
                    return next;
                }
                next = heir[next];
            }
            return NONE;
        }

        int grips(int person) {
            int wool = (tied >> person & 1) * WOOL;
            int more = law.total(this, person, Law.GRIP);
            int less = law.total(this, person, Law.SLIP);
            return Math.max(0, grip[person] + wool + more - less);
        }

        int fails(int person) {
            return Math.min(SURE, death + age[person] / 5 + law.total(this, person, Law.FAIL));
        }

        /** What a word of the law is of a person; of open, tied and alone 1 if it is so. */
        int measure(int op, int person) {
            switch (op) {
                case Law.PERSON: return person;
                case Law.AGE: return age[person];
                case Law.HAND: return grip[person];
                case Law.OWNS: return Integer.bitCount(ownedBy(person));
                case Law.LAID: return Integer.bitCount(clothOf(person));
                case Law.SIZE:
                    int held = holding(person);
                    return held == NONE ? 0 : size[held];
                case Law.NIGHT: return night % 100;
                case Law.OPEN: return holding(person) == NONE ? 1 : 0;
                case Law.TIED: return tied >> person & 1;
                case Law.ALONE: return successor(person) == NONE ? 1 : 0;
                default: return 0;
            }
        }

        void addPerson(int years, int strength, int next, boolean wool) {
            if (people >= MOST_PEOPLE) {
                return;
            }
            age[people] = years;
            grip[people] = strength;
            heir[people] = next;
            living |= 1 << people;
            if (wool) {
                tied |= 1 << people;
            }
            people++;
        }

        void addThing(int value, int room, int person) {
            if (things >= MOST_THINGS) {
                return;
            }
            worth[things] = value;
            size[things] = room;
            owner[things] = person;
            place[things] = BY;
            whose[things] = NONE;
            things++;
        }

        void move(int thing, int where, int person) {
            place[thing] = where;
            whose[thing] = person;
        }

        /** What is handed over is the taker's own; nothing may be, too. */
        void handOver(int thing, int taker) {
            if (isThing(thing)) {
                move(thing, HAND, taker);
                owner[thing] = taker;
            }
        }

        int draw() {
            seed = seed * 1103515245 + 12345;
            return seed >>> 16 & 0x7fff;
        }

        /** How many died in these nights. */
        int pass(int nights) {
            int before = Integer.bitCount(living);
            for (int n = 0; n < nights; n++) {
                letGo();
                feel();
                wakeOrDie();
                night = Math.min(night + 1, LAST_NIGHT);
            }
            return before - Integer.bitCount(living);
        }

        void passLettingGo(int nights) {
            for (int n = 0; n < nights; n++) {
                letGo();
                night = Math.min(night + 1, LAST_NIGHT);
            }
        }

        private void letGo() {
            for (int p = 0; p < people; p++) {
                int held = holding(p);
                if (isLiving(p) && held != NONE && size[held] > grips(p)) {
                    move(held, CLOTH, p);
                    log.add(night, p, Log.LET_GO, held, age[p]);
                }
            }
        }

        private void feel() {
            for (int p = 0; p < people; p++) {
                int cloth = clothOf(p);
                if (!isLiving(p) || cloth == 0 || holding(p) != NONE) {
                    continue;
                }
                int felt = numbered(cloth, draw() % Integer.bitCount(cloth));
                if (!isThing(felt)) {
                    continue;
                }
                boolean fits = size[felt] <= grips(p);
                if (fits) {
                    move(felt, HAND, p);
                }
                log.add(night, p, fits ? Log.HELD : Log.NOT_HELD, felt, age[p]);
            }
        }

        /** The thing of that number among the bits, from 0 on. */
        private int numbered(int bits, int number) {
            int left = number;
            for (int t = 0; t < things; t++) {
                if ((bits >> t & 1) == 1) {
                    if (left == 0) {
                        return t;
                    }
                    left--;
                }
            }
            return NONE;
        }

        private void wakeOrDie() {
            for (int p = 0; p < people; p++) {
                if (!isLiving(p)) {
                    continue;
                }
                if (night % 10 == 9) {
                    age[p] = Math.min(age[p] + 1, MOST_AGE);
                }
                if (draw() % SURE < fails(p)) {
                    die(p);
                }
            }
        }

        private void die(int person) {
            int held = holding(person);
            int next = successor(person);
            for (int t = 0; t < things; t++) {
                boolean own = owner[t] == person;
                if (own) {
                    owner[t] = t == held ? next : NONE;
                }
                if (own || whose[t] == person) {
                    move(t, BY, NONE);
                }
            }
            living &= ~(1 << person);
            log.add(night, person, Log.DIED, held, age[person]);
        }
    }

    /** What is reckoned of a valley as it is, with nothing changed. */
    private static final class Estates {
        private static final int ALL_HUNDREDTHS = 100;
        private static final int CERTAIN = 10000;

        private Estates() {
        }

        static int estate(Valley valley, int person) {
            int held = valley.holding(person);
            if (held == NONE || valley.owner[held] != person || !valley.isLiving(person)
                    || valley.successor(person) == NONE) {
                return 0;
            }
            return valley.worth[held];
        }

        static int lost(Valley valley, int person) {
            if (!valley.isLiving(person)) {
                return 0;
            }
            return valley.worthOf(valley.ownedBy(person)) - estate(valley, person);
        }

        static int line(Valley valley, int person) {
            int bits = 0;
            int next = valley.heir[person];
            for (int step = 0; step < valley.people && next != NONE; step++) {
                bits |= 1 << next;
                next = valley.heir[next];
            }
            return bits;
        }

        static int hangers(Valley valley, int person) {
            int bits = 0;
            for (int p = 0; p < valley.people; p++) {
                if (valley.isLiving(p) && valley.successor(p) == person) {
                    bits |= 1 << p;
                }
            }
            return bits;
        }

        static int shutting(Valley valley, int person, int thing) {
            int cloth = valley.clothOf(person);
            if ((cloth >> thing & 1) == 0 || !valley.isLiving(person)
                    || valley.holding(person) != NONE || !valley.fits(person, thing)) {
                return 0;
            }
            return CERTAIN / Math.max(1, Integer.bitCount(cloth));
        }

        static int hoped(Valley valley, int person) {
            int cloth = valley.clothOf(person);
            if (cloth == 0 || !valley.isLiving(person) || valley.holding(person) != NONE) {
                return 0;
            }
            int grips = valley.grips(person);
            int sum = 0;
            for (int t = 0; t < valley.things; t++) {
                if ((cloth >> t & 1) == 1 && valley.size[t] <= grips) {
                    sum += valley.worth[t];
                }
            }
            return ALL_HUNDREDTHS * sum / Math.max(1, Integer.bitCount(cloth));
        }

        static int share(Valley valley, int person) {
            int all = valley.worthOf(valley.allThings());
            if (all <= 0) {
                return 0;
            }
            return ALL_HUNDREDTHS * valley.worthOf(valley.ownedBy(person)) / all;
        }

        /** The sets come in the order of their bits, so that of like ones the first stays. */
        static int basket(Valley valley, int person, int room) {
            int owned = valley.ownedBy(person);
            int best = 0;
            int most = 0;
            for (int set = 1; set <= owned; set++) {
                if ((set & ~owned) != 0 || sizeOf(valley, set) > room) {
                    continue;
                }
                int worth = valley.worthOf(set);
                if (worth > most || worth == most && Integer.bitCount(set) < Integer.bitCount(best)) {
                    most = worth;
                    best = set;
                }
            }
            return best;
        }

        private static int sizeOf(Valley valley, int bits) {
            int sum = 0;
            for (int t = 0; t < valley.things; t++) {
                sum += (bits >> t & 1) * valley.size[t];
            }
            return sum;
        }

        static int fewestWatchers(Valley valley) {
            int best = valley.living;
            for (int set = 0; set < valley.living; set++) {
                if ((set & ~valley.living) == 0 && Integer.bitCount(set) < Integer.bitCount(best)
                        && allWatched(valley, set)) {
                    best = set;
                }
            }
            return best;
        }

        private static boolean allWatched(Valley valley, int watchers) {
            for (int p = 0; p < valley.people; p++) {
                if (!valley.isLiving(p) || (watchers >> p & 1) == 1) {
                    continue;
                }
                int next = valley.successor(p);
                if (next == NONE || (watchers >> next & 1) == 0) {
                    return false;
                }
            }
            return true;
        }

        static int restingChoices(Valley valley, int person) {
            int estate = estate(valley, person) / 10;
            int lost = lost(valley, person) / 10;
            int grip = valley.grip[person];
            int bits = 0;
            for (int choice = 0; choice < 4; choice++) {
                boolean heirRests = heirHas(choice, estate, lost) >= heirHas(choice ^ 2, estate, lost);
                if (heirRests && nurseHas(choice, grip) >= nurseHas(choice ^ 1, grip)) {
                    bits |= 1 << choice;
                }
            }
            return bits;
        }

        // A choice is 2 times the heir's (to come 0, to stay 1) and the nurse's (to tickle 0, to sleep 1).
        private static int heirHas(int choice, int estate, int lost) {
            switch (choice) {
                case 0: return estate;
                case 1: return -2;
                case 2: return -lost;
                default: return 1;
            }
        }

        private static int nurseHas(int choice, int grip) {
            switch (choice) {
                case 0: return 1;
                case 1: return 2;
                case 2: return 0;
                default: return grip - 5;
            }
        }

        static int oddsThatAllWake(Valley valley, int nights) {
            int odds = CERTAIN;
            for (int n = 0; n < nights; n++) {
                for (int p = 0; p < valley.people; p++) {
                    if (valley.isLiving(p)) {
                        odds = odds * (ALL_HUNDREDTHS - valley.fails(p)) / ALL_HUNDREDTHS;
                    }
                }
            }
            return odds;
        }

        /** The oldest (0), the strongest (1), the richest (2). */
        static int foremost(Valley valley, int what) {
            int found = NONE;
            int most = NONE;
            for (int p = 0; p < valley.people; p++) {
                if (valley.isLiving(p) && standing(valley, p, what) > most) {
                    most = standing(valley, p, what);
                    found = p;
                }
            }
            return found;
        }

        private static int standing(Valley valley, int person, int what) {
            if (what == 0) {
                return valley.age[person];
            }
            return what == 1 ? valley.grips(person) : valley.worthOf(valley.ownedBy(person));
        }
    }

    /** Things put to hands, people put two by two, and bargains; the rows are used again by every call. */
    private static final class Matches {
        private final int[] grips = new int[MOST_PEOPLE];
        private final int[] order = new int[MOST_THINGS];
        private final int[] holds = new int[MOST_PEOPLE];
        private final int[] pointsAt = new int[MOST_PEOPLE];
        private final int[] paired = new int[1 << MOST_PEOPLE];

        int mostHeld(Valley valley) {
            readHands(valley);
            return mostHeldBy(valley, valley.living, valley.allThings());
        }

        /** Each person in turn has the least that still lets all be worth the most. */
        int thingPutTo(Valley valley, int person) {
            readHands(valley);
            int hands = valley.living;
            int goods = valley.allThings();
            int most = mostHeldBy(valley, hands, goods);
            int chosen = NONE;
            for (int p = 0; p <= person; p++) {
                hands &= ~(1 << p);
                chosen = valley.isLiving(p) ? leastChoice(valley, p, hands, goods, most) : NONE;
                if (chosen != NONE) {
                    goods &= ~(1 << chosen);
                    most -= valley.worth[chosen];
                }
            }
            return chosen;
        }

        private int leastChoice(Valley valley, int person, int others, int goods, int most) {
            if (mostHeldBy(valley, others, goods) == most) {
                return NONE;
            }
            for (int t = 0; t < valley.things; t++) {
                if ((goods >> t & 1) == 1 && valley.size[t] <= grips[person]
                        && valley.worth[t] + mostHeldBy(valley, others, goods & ~(1 << t)) == most) {
                    return t;
                }
            }
            return NONE;
        }

        // What fits a hand fits every stronger one: so the dearest thing first, each to the weakest
        // free hand that can hold it, leaves out no thing that could be held beside the dearer ones.
        private int mostHeldBy(Valley valley, int hands, int goods) {
            int free = hands;
            int sum = 0;
            for (int i = 0; i < valley.things; i++) {
                int thing = order[i];
                if ((goods >> thing & 1) == 0) {
                    continue;
                }
                int hand = weakestHand(free, valley.size[thing]);
                if (hand != NONE) {
                    free &= ~(1 << hand);
                    sum += valley.worth[thing];
                }
            }
            return sum;
        }

        private int weakestHand(int free, int size) {
            int found = NONE;
            for (int p = 0; p < MOST_PEOPLE; p++) {
                if ((free >> p & 1) == 1 && grips[p] >= size && (found == NONE || grips[p] < grips[found])) {
                    found = p;
                }
            }
            return found;
        }

        private void readHands(Valley valley) {
            for (int p = 0; p < valley.people; p++) {
                grips[p] = valley.grips(p);
            }
            for (int t = 0; t < valley.things; t++) {
                int at = t;
                while (at > 0 && valley.worth[order[at - 1]] < valley.worth[t]) {
                    order[at] = order[at - 1];
                    at--;
                }
                order[at] = t;
            }
        }

        int mostPaired(Valley valley) {
            readPairs(valley);
            return paired[valley.living];
        }

        /** Each person in turn has the least partner that still lets all grips be the most. */
        int partner(Valley valley, int person) {
            readPairs(valley);
            int left = valley.living;
            for (int p = 0; p <= person; p++) {
                int other = leastPartner(valley, p, left);
                if (p == person || other == person) {
                    return p == person ? other : p;
                }
                left &= ~(1 << p);
                if (other != NONE) {
                    left &= ~(1 << other);
                }
            }
            return NONE;
        }

        private int leastPartner(Valley valley, int person, int left) {
            int rest = left & ~(1 << person);
            if (rest == left || paired[rest] == paired[left]) {
                return NONE;
            }
            for (int p = 0; p < valley.people; p++) {
                if ((rest >> p & 1) == 1 && mayPair(valley, person, p)
                        && gripsOf(valley, person, p) + paired[rest & ~(1 << p)] == paired[left]) {
                    return p;
                }
            }
            return NONE;
        }

        /** Of every set of people the most that pairs within it can be. */
        private void readPairs(Valley valley) {
            paired[0] = 0;
            for (int last = 0; last < valley.people; last++) {
                for (int rest = 0; rest < 1 << last; rest++) {
                    int most = paired[rest];
                    for (int p = 0; p < last; p++) {
                        if ((rest >> p & 1) == 1 && mayPair(valley, last, p)) {
                            most = Math.max(most, gripsOf(valley, last, p) + paired[rest & ~(1 << p)]);
                        }
                    }
                    paired[rest | 1 << last] = most;
                }
            }
        }

        private static boolean mayPair(Valley valley, int person, int other) {
            return valley.heir[person] != other && valley.heir[other] != person;
        }

        private static int gripsOf(Valley valley, int person, int other) {
            return valley.grip[person] + valley.grip[other];
        }

        int core(Valley valley, int person) {
            int left = 0;
            for (int p = 0; p < valley.people; p++) {
                holds[p] = valley.isLiving(p) ? valley.holding(p) : NONE;
                grips[p] = valley.grips(p);
                left |= holds[p] == NONE ? 0 : 1 << p;
            }
            for (int i = 0; i < valley.people && left != 0; i++) {
                point(valley, left);
                int going = inRings(valley, left);
                if ((going >> person & 1) == 1) {
                    return holds[pointsAt[person]];
                }
                left &= ~going;
            }
            return NONE;
        }

        private void point(Valley valley, int left) {
            for (int p = 0; p < valley.people; p++) {
                if ((left >> p & 1) == 0) {
                    continue;
                }
                int best = p;
                for (int q = 0; q < valley.people; q++) {
                    if ((left >> q & 1) == 1 && valley.size[holds[q]] <= grips[p]
                            && isBetter(valley, holds[q], holds[best])) {
                        best = q;
                    }
                }
                pointsAt[p] = best;
            }
        }

        private static boolean isBetter(Valley valley, int thing, int other) {
            int more = valley.worth[thing] - valley.worth[other];
            return more > 0 || more == 0 && thing < other;
        }

        /** Those who come to themselves by whom they point at. */
        private int inRings(Valley valley, int left) {
            int bits = 0;
            for (int p = 0; p < valley.people; p++) {
                int next = p;
                for (int step = 0; step < valley.people && (left >> p & 1) == 1; step++) {
                    next = pointsAt[next];
                    if (next == p) {
                        bits |= 1 << p;
                        break;
                    }
                }
            }
            return bits;
        }
    }

    /** What is asked of rows told on a tape, of which one at most is wrong; and fingers opened by turns. */
    private static final class Told {
        private static final int MOST_BYTES = 40;
        private static final int WHATS = 3;
        private static final int OWNER = 2;
        private static final int CROWN = 9;
        private static final int MOST_TOLD = 99;
        private static final int MOST_NUMBERS = 6;
        private static final int MOST_OPENED = 9;

        private final boolean[] wins = new boolean[MOST_FINGERS + 1];

        static boolean tellsThings(Tape tape) {
            if (!hasRows(tape)) {
                return false;
            }
            for (int i = 0; i < tape.used; i += 2) {
                if (tape.at(i) >= WHATS || tape.at(i + 1) > MOST_TOLD) {
                    return false;
                }
            }
            return true;
        }

        static boolean tellsSizes(Tape tape) {
            if (!hasRows(tape)) {
                return false;
            }
            for (int i = 0; i < tape.used; i += 2) {
                if (tape.at(i) < 1 || tape.at(i) > MOST_SIZE || tape.at(i + 1) > 1) {
                    return false;
                }
            }
            return true;
        }

        static boolean tellsFingers(Tape tape) {
            if (tape.used > MOST_NUMBERS) {
                return false;
            }
            for (int i = 0; i < tape.used; i++) {
                if (tape.at(i) < 1 || tape.at(i) > MOST_OPENED) {
                    return false;
                }
            }
            return true;
        }

        private static boolean hasRows(Tape tape) {
            return tape.used <= MOST_BYTES && tape.used % 2 == 0;
        }

        static int fittingThings(Tape tape, Valley valley) {
            int bits = 0;
            for (int t = 0; t < valley.things; t++) {
                if (wrongOfThing(tape, valley, t) <= 1) {
                    bits |= 1 << t;
                }
            }
            return bits;
        }

        static int likeliestThing(Tape tape, Valley valley) {
            int found = NONE;
            int fewest = 2;
            for (int t = 0; t < valley.things; t++) {
                int wrong = wrongOfThing(tape, valley, t);
                boolean dearer = found != NONE && wrong == fewest && valley.worth[t] > valley.worth[found];
                if (wrong < fewest || dearer) {
                    fewest = wrong;
                    found = t;
                }
            }
            return found;
        }

        static int bestQuestion(Valley valley, int fitting) {
            if (Integer.bitCount(fitting) < 2) {
                return NONE;
            }
            int best = NONE;
            int least = MOST_THINGS + 1;
            for (int what = 0; what < WHATS; what++) {
                int greatest = greatestPart(valley, fitting, what);
                if (greatest < least) {
                    least = greatest;
                    best = what;
                }
            }
            return best;
        }

        private static int greatestPart(Valley valley, int fitting, int what) {
            int greatest = 0;
            for (int t = 0; t < valley.things; t++) {
                int part = 0;
                for (int u = 0; u < valley.things; u++) {
                    if ((fitting >> u & 1) == 1 && tellable(valley, u, what) == tellable(valley, t, what)) {
                        part++;
                    }
                }
                greatest = (fitting >> t & 1) == 1 ? Math.max(greatest, part) : greatest;
            }
            return greatest;
        }

        private static int wrongOfThing(Tape tape, Valley valley, int thing) {
            int wrong = 0;
            for (int i = 0; i < tape.used; i += 2) {
                if (tellable(valley, thing, tape.at(i)) != tape.at(i + 1)) {
                    wrong++;
                }
            }
            return wrong;
        }

        /** What is told of a thing: its worth (0), its size (1), its owner (2). */
        private static int tellable(Valley valley, int thing, int what) {
            if (what == OWNER) {
                return valley.owner[thing] == NONE ? CROWN : valley.owner[thing];
            }
            return what == 0 ? valley.worth[thing] : valley.size[thing];
        }

        static int fittingStrengths(Tape tape) {
            int bits = 0;
            for (int strength = 0; strength <= MOST_SIZE; strength++) {
                if (wrongOfStrength(tape, strength) <= 1) {
                    bits |= 1 << strength;
                }
            }
            return bits;
        }

        static int leastStrength(Tape tape) {
            int found = NONE;
            int fewest = 2;
            for (int strength = 0; strength <= MOST_SIZE; strength++) {
                int wrong = wrongOfStrength(tape, strength);
                if (wrong < fewest) {
                    fewest = wrong;
                    found = strength;
                }
            }
            return found;
        }

        static int bestSize(int fitting) {
            int all = Integer.bitCount(fitting);
            if (all < 2) {
                return NONE;
            }
            int best = NONE;
            int least = MOST_SIZE + 2;
            for (int size = 1; size <= MOST_SIZE; size++) {
                int holding = Integer.bitCount(fitting >> size);
                int greater = Math.max(holding, all - holding);
                if (greater < least) {
                    least = greater;
                    best = size;
                }
            }
            return best;
        }

        private static int wrongOfStrength(Tape tape, int strength) {
            int wrong = 0;
            for (int i = 0; i < tape.used; i += 2) {
                boolean holds = tape.at(i) <= strength;
                if (holds != (tape.at(i + 1) == 1)) {
                    wrong++;
                }
            }
            return wrong;
        }

        /** How many she opens first who wins with n left; NONE if she loses. */
        int winningOpening(Tape tape, int n) {
            int opened = NONE;
            for (int left = 0; left <= n && left < wins.length; left++) {
                opened = NONE;
                for (int i = 0; i < tape.used; i++) {
                    int number = tape.at(i);
                    boolean beats = number > 0 && number <= left && !wins[left - number];
                    if (beats && (opened == NONE || number < opened)) {
                        opened = number;
                    }
                }
                wins[left] = opened != NONE;
            }
            return opened;
        }
    }
}
