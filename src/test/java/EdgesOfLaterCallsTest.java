import java.util.Arrays;

/** The document's sentences on the promises 25 to 50 that name an edge: each has a test of its own, in its order. */
public final class EdgesOfLaterCallsTest {
    private static final int[] NONE_OF_60 = {-1, 61, Edges.MIN, Edges.MAX};

    public static void main(String[] args) {
        held();
        likely();
        ask();
        strong();
        test();
        fingers();
        opens();
        pairs();
        rests();
        odds();
        most();
        living();
        idle();
        crown();
        wealth();
        twins();
        ahead();
        trial();
        span();
        led();
        log();
        seed();
        undo();
        image();
        back();
        count();
        Check.end();
    }

    /** Three people, of whom 2 is dead, and two things. */
    private static GripEstates valley() {
        GripEstates x = Check.of(Edges.peopleText(3) + ";thing worth 5 size 5 of 0 held 0;crown worth 8 size 1");
        Edges.die(x, "person > 1", 1);
        return x;
    }

    private static int[] rows(int many, int first, int second) {
        int[] tape = new int[2 * many];
        for (int i = 0; i < tape.length; i += 2) {
            tape[i] = first;
            tape[i + 1] = second;
        }
        return tape;
    }

    private static void answers(GripEstates x, Check.Call call, long want, int... tape) {
        Check.tape(x, tape);
        Check.dueOf(Arrays.toString(tape), want, call);
        Check.due("the tape is used up", 0, Check.lengthOfTape(x));
    }

    private static void refuses(GripEstates x, Check.Call call, int... tape) {
        Check.tape(x, tape);
        Check.refused(Arrays.toString(tape), Check.ARGUMENT, x, call);
        Check.due("the tape is used up", 0, Check.lengthOfTape(x));
    }

    private static void refusesOfThings(GripEstates x, Check.Call call) {
        refuses(x, call, 0);
        refuses(x, call, 0, 5, 0);
        refuses(x, call, 3, 5);
        refuses(x, call, 0, 100);
        refuses(x, call, 128, 5);
        refuses(x, call, 0, 5, 0, 255);
        refuses(x, call, rows(21, 0, 5));
        refuses(x, call, Arrays.copyOf(rows(20, 0, 5), 41));
        refuses(x, call, rows(200, 0, 5));
    }

    private static void held() {
        Edges.says("Uses the TAPE up: HELD (of each two bytes: what, how much; at most 40 bytes), as bits. IllegalArgumentException: the "
            + "TAPE is not that (none may be told).");
        GripEstates x = valley();
        answers(x, x::held, 3);
        answers(x, x::held, 1, rows(20, 0, 5));
        answers(x, x::held, 2, rows(20, 2, 9));
        answers(x, x::held, 0, rows(20, 0, 99));
        refusesOfThings(x, x::held);
    }

    private static void likely() {
        Edges.says("Uses the TAPE up: LIKELY (the TAPE as for HELD); NONE. IllegalArgumentException: the TAPE is not that.");
        GripEstates x = valley();
        answers(x, x::likely, 1);
        answers(x, x::likely, 0, rows(20, 0, 5));
        answers(x, x::likely, -1, rows(20, 0, 99));
        refusesOfThings(x, x::likely);
    }

    private static void ask() {
        Edges.says("Uses the TAPE up: ASK (the TAPE as for HELD); NONE. IllegalArgumentException: the TAPE is not that.");
        GripEstates x = valley();
        answers(x, x::ask, 0);
        answers(x, x::ask, -1, rows(20, 0, 5));
        answers(x, x::ask, -1, rows(20, 0, 99));
        refusesOfThings(x, x::ask);
    }

    private static void refusesOfSizes(GripEstates x, Check.Call call) {
        refuses(x, call, 1);
        refuses(x, call, 1, 1, 1);
        refuses(x, call, 0, 1);
        refuses(x, call, 13, 1);
        refuses(x, call, 12, 2);
        refuses(x, call, 255, 1);
        refuses(x, call, 12, 1, 12, 255);
        refuses(x, call, rows(21, 1, 1));
        refuses(x, call, Arrays.copyOf(rows(21, 1, 1), 41));
        refuses(x, call, rows(200, 1, 1));
    }

    private static void strong() {
        Edges.says("Uses the TAPE up: STRONG (of each two bytes: the SIZE, 1 or 0; at most 40 bytes): how many fit (least false), or LEAST; "
            + "NONE. IllegalArgumentException: the TAPE is not that (none may be told).");
        GripEstates x = valley();
        answers(x, () -> x.strong(false), 13);
        answers(x, () -> x.strong(true), 0);
        answers(x, () -> x.strong(false), 12, rows(20, 1, 1));
        answers(x, () -> x.strong(true), 1, rows(20, 1, 1));
        answers(x, () -> x.strong(false), 12, rows(20, 12, 0));
        answers(x, () -> x.strong(true), 0, rows(20, 12, 0));
        answers(x, () -> x.strong(false), 0, 6, 1, 6, 1, 6, 0, 6, 0);
        answers(x, () -> x.strong(true), -1, 6, 1, 6, 1, 6, 0, 6, 0);
        refusesOfSizes(x, () -> x.strong(false));
        refusesOfSizes(x, () -> x.strong(true));
    }

    private static void test() {
        Edges.says("Uses the TAPE up: TRY (the TAPE as for STRONG); NONE. IllegalArgumentException: the TAPE is not that.");
        GripEstates x = valley();
        answers(x, x::test, 6);
        // 1 to 12: by 7 six and six.
        answers(x, x::test, 7, rows(20, 1, 1));
        answers(x, x::test, -1, rows(20, 12, 1));
        answers(x, x::test, -1, 6, 1, 6, 1, 6, 0, 6, 0);
        refusesOfSizes(x, x::test);
    }

    private static void refusesFingers(GripEstates x, Check.Call call) {
        refuses(x, call, 0);
        refuses(x, call, 10);
        refuses(x, call, 255);
        refuses(x, call, 1, 2, 3, 4, 5, 6, 7);
        refuses(x, call, 1, 1, 1, 1, 1, 1, 1);
        refuses(x, call, 1, 2, 3, 4, 5, 0);
        refuses(x, call, rows(200, 1, 1));
    }

    private static void fingers() {
        Edges.says("Uses the TAPE up: FINGERS. IllegalArgumentException: the TAPE is not that (none may be told), or N is none.");
        GripEstates x = valley();
        answers(x, () -> x.fingers(0) ? 1 : 0, 0);
        answers(x, () -> x.fingers(99) ? 1 : 0, 0);
        answers(x, () -> x.fingers(9) ? 1 : 0, 1, 9);
        answers(x, () -> x.fingers(99) ? 1 : 0, 1, 1, 2, 3, 4, 5, 6);
        // Of 7, 14, .. 98 one loses by 1 to 6.
        answers(x, () -> x.fingers(98) ? 1 : 0, 0, 1, 2, 3, 4, 5, 6);
        refusesFingers(x, () -> x.fingers(5) ? 1 : 0);
        for (int n : new int[] {-1, 100, Edges.MIN, Edges.MAX}) {
            refuses(x, () -> x.fingers(n) ? 1 : 0);
            refuses(x, () -> x.fingers(n) ? 1 : 0, 1, 2);
        }
    }

    private static void opens() {
        Edges.says("Uses the TAPE up: OPENS; NONE. IllegalArgumentException: the TAPE is not that (none may be told), or N is none.");
        GripEstates x = valley();
        answers(x, () -> x.opens(0), -1);
        answers(x, () -> x.opens(0), -1, 1);
        answers(x, () -> x.opens(9), 9, 9);
        answers(x, () -> x.opens(99), 1, 6, 5, 4, 3, 2, 1);
        answers(x, () -> x.opens(97), 6, 1, 2, 3, 4, 5, 6);
        answers(x, () -> x.opens(98), -1, 1, 2, 3, 4, 5, 6);
        refusesFingers(x, () -> x.opens(5));
        for (int n : new int[] {-1, 100, Edges.MIN, Edges.MAX}) {
            refuses(x, () -> x.opens(n));
            refuses(x, () -> x.opens(n), 1, 2);
        }
    }

    private static void pairs() {
        Edges.says("PAIRS: how much (person NONE), or with whom one is; NONE.");
        GripEstates x = valley();
        Check.due("how much", 10, x.pairs(-1));
        Check.due("with whom", 1, x.pairs(0));
        Check.due("with whom", 0, x.pairs(1));
        Check.due("a dead one", -1, x.pairs(2));
        Check.refused("-2", Check.INDEX, x, () -> x.pairs(-2));
        Check.refused("3", Check.INDEX, x, () -> x.pairs(3));
        GripEstates nobody = new GripEstates();
        Check.due("nobody", 0, nobody.pairs(-1));
        Check.refused("nobody", Check.INDEX, nobody, () -> nobody.pairs(0));
    }

    private static void rests() {
        Edges.says("`int rests(int person) throws IndexOutOfBoundsException`: RESTS, as bits.");
        GripEstates x = valley();
        Check.due("below 10 all", 12, x.rests(0));
        Check.due("a dead one", 12, x.rests(2));
        Check.refused("-1", Check.INDEX, x, () -> x.rests(-1));
        Check.refused("3", Check.INDEX, x, () -> x.rests(3));
    }

    private static void odds() {
        Edges.says("`int odds(int n) throws IllegalArgumentException`: ODDS. IllegalArgumentException: N is none.");
        GripEstates x = valley();
        Edges.tell(x, "death 50");
        int[] odds = {10000, 2500, 625, 156, 39};
        for (int n = 0; n <= 4; n++) {
            Check.due("nights " + n, odds[n], x.odds(n));
        }
        for (int n : new int[] {-1, 5, Edges.MIN, Edges.MAX}) {
            Check.refused("nights " + n, Check.ARGUMENT, x, () -> x.odds(n));
        }
    }

    private static void most() {
        Edges.says("OLDEST (what 0), STRONGEST (1), RICHEST (2); NONE. NoSuchElementException: another what.");
        GripEstates x = valley();
        GripEstates nobody = new GripEstates();
        for (int what : new int[] {-1, 3, Edges.MIN, Edges.MAX}) {
            Check.refused("what " + what, Check.ELEMENT, x, () -> x.most(what));
            Check.refused("of nobody what " + what, Check.ELEMENT, nobody, () -> nobody.most(what));
        }
        for (int what = 0; what <= 2; what++) {
            Check.due("what " + what, 0, x.most(what));
            Check.due("of nobody what " + what, -1, nobody.most(what));
        }
    }

    private static void living() {
        Edges.says("`int living()`: LIVING ones, as bits.");
        Check.due("nobody", 0, new GripEstates().living());
        GripEstates x = valley();
        Check.due("without the dead one", 3, x.living());
        Check.due("with one born", 3, x.born(0));
        Check.due("with one born", 11, x.living());
    }

    private static void idle() {
        Edges.says("`int idle()`: OPEN, as bits.");
        Check.due("nobody", 0, new GripEstates().idle());
        GripEstates x = valley();
        Check.due("without the dead one, and who holds", 2, x.idle());
        x.open(0);
        Check.due("without the dead one", 3, x.idle());
    }

    private static void crown() {
        Edges.says("`int crown()`: CROWN, as bits.");
        Check.due("nothing", 0, new GripEstates().crown());
        GripEstates x = valley();
        Check.due("the last", 2, x.crown());
        Edges.die(x, "person < 1", 1);
        Check.due("both", 3, x.crown());
    }

    private static void wealth() {
        Edges.says("`int wealth()`: WEALTH of the CROWN.");
        Check.due("nothing", 0, new GripEstates().wealth());
        GripEstates x = valley();
        Check.due("of the last", 8, x.wealth());
        Edges.die(x, "person < 1", 1);
        Check.due("of both", 13, x.wealth());
        Check.due("of no worth", 0, Check.of("crown worth 0 size 1").wealth());
    }

    private static void twins() {
        Edges.says("`int twins()`: TWINS.");
        Check.due("nothing", 0, new GripEstates().twins());
        GripEstates x = valley();
        Check.due("none", 0, x.twins());
        Edges.tell(x, "crown worth 5 size 5");
        Check.due("whosever they are", 1, x.twins());
    }

    private static void ahead() {
        Edges.says("IN N NIGHTS the THING that one holds; NONE. IllegalArgumentException: N is none (0 to 60).");
        GripEstates x = valley();
        Check.due("0", 0, x.ahead(0, 0));
        Check.due("60", 0, x.ahead(0, 60));
        Check.due("nothing", -1, x.ahead(1, 60));
        Check.due("a dead one", -1, x.ahead(2, 0));
        for (int n : NONE_OF_60) {
            Check.refused("nights " + n, Check.ARGUMENT, x, () -> x.ahead(0, n));
        }
    }

    private static void trial() {
        Edges.says("TRIAL: LIVING ones, as bits (wealth false), or WEALTH. IllegalArgumentException: N is none.");
        GripEstates x = valley();
        Check.due("0", 3, x.trial(0, false));
        Check.due("0", 8, x.trial(0, true));
        Check.due("40", 3, x.trial(40, false));
        Edges.tell(x, "death 100");
        Check.due("1", 0, x.trial(1, false));
        Check.due("60", 13, x.trial(60, true));
        for (int n : NONE_OF_60) {
            Check.refused("nights " + n, Check.ARGUMENT, x, () -> x.trial(n, false));
            Check.refused("nights " + n, Check.ARGUMENT, x, () -> x.trial(n, true));
        }
    }

    private static void span() {
        Edges.says("SPAN: the least (most false), or the greatest. IllegalArgumentException: N is none (0 to 60).");
        GripEstates x = valley();
        Check.due("0", 8, x.span(0, false));
        Check.due("0", 8, x.span(0, true));
        Edges.tell(x, "death 100");
        Check.due("60", 13, x.span(60, false));
        Check.due("60", 13, x.span(60, true));
        for (int n : NONE_OF_60) {
            Check.refused("nights " + n, Check.ARGUMENT, x, () -> x.span(n, false));
            Check.refused("nights " + n, Check.ARGUMENT, x, () -> x.span(n, true));
        }
    }

    private static void led() {
        Edges.says("LED: how many rows (night false), or the NIGHT; NONE.");
        GripEstates x = valley();
        Check.due("none", 0, x.led(0, false));
        Check.due("none", -1, x.led(0, true));
        Check.due("who died", 1, x.led(2, false));
        Check.due("in night 0", 0, x.led(2, true));
    }

    private static void log() {
        Edges.says("THE LOG so many ago (0 the latest) what 0 NIGHT, 1 the person, 2 0 to 3, 3 the THING (NONE), 4 AGE; - 2 without. "
            + "NoSuchElementException: another what.");
        GripEstates x = valley();
        Edges.row(x, 0, 0, 2, 3, -1, 0);
        for (int ago : new int[] {-1, 1, 60, Edges.MIN, Edges.MAX}) {
            for (int what = 0; what <= 4; what++) {
                Check.due("ago " + ago + " what " + what, -2, x.log(ago, what));
            }
        }
        for (int what : new int[] {-1, 5, Edges.MIN, Edges.MAX}) {
            Check.refused("what " + what, Check.ELEMENT, x, () -> x.log(0, what));
            Check.refused("what " + what + " without a row", Check.ELEMENT, x, () -> x.log(1, what));
        }
    }

    private static void seed() {
        Edges.says("`int seed(int n)`: SEED: what it was.");
        GripEstates x = new GripEstates();
        int before = 1;
        for (int n : new int[] {0, -1, Edges.MIN, Edges.MAX, 1, 32768}) {
            Check.due("seed", before, x.seed(n));
            before = n;
        }
        Check.due("no act", false, x.undo());
    }

    private static void undo() {
        Edges.says("UNDONE: whether there was one.");
        GripEstates x = valley();
        String before = Check.seen(x);
        Check.due("none", false, x.undo());
        Check.due("nothing happens", before, Check.seen(x));
        x.tie(0, true);
        Check.due("one", true, x.undo());
        Check.due("as before", before, Check.seen(x));
        Check.due("none", false, x.undo());
    }

    private static void image() {
        Edges.says("`void image()`: THE IMAGE is kept.");
        GripEstates x = new GripEstates();
        x.image();
        x.born(5);
        Check.due("back to nobody", true, x.back());
        Check.due("nobody", 0, x.count(0));
        x.born(5);
        x.image();
        x.nights(1);
        x.undo();
        x.undo();
        Check.due("undone", 0, x.count(0));
        Check.due("back to one", true, x.back());
        Check.due("one", 1, x.count(0));
    }

    private static void back() {
        Edges.says("One goes back to THE IMAGE: true; false, and nothing happens, if none was kept.");
        GripEstates x = valley();
        x.tie(0, true);
        String before = Check.seen(x);
        Check.due("none was kept", false, x.back());
        Check.due("nothing happens", before, Check.seen(x));
        x.image();
        Check.due("back at once", true, x.back());
        Check.due("tied", 1, x.person(0, 3));
        Check.due("but nothing can be undone", 0, x.count(11));
    }

    private static void count() {
        Edges.says("0 PEOPLE, 1 THINGS, 2 texts of THE VALLEY, 3 LINES of THE LAW (NONE without one), 4 DEATH, 5 WITNESSES, 6 NIGHT, 7 "
            + "WORTH of all THINGS, 8 how many are in HANDS, 9 how many on CLOTHS, 10 rows of THE LOG, 11 acts that can be UNDONE. NONE "
            + "for another what.");
        GripEstates x = valley();
        int[] counts = {3, 2, 1, 0, 0, 2, 1, 13, 1, 0, 1, 0};
        for (int what = 0; what < counts.length; what++) {
            Check.due("count " + what, counts[what], x.count(what));
        }
        for (int what : new int[] {-1, 12, Edges.MIN, Edges.MAX}) {
            Check.due("count " + what, -1, x.count(what));
        }
        Check.due("without a law", -1, Edges.people(1).count(3));
    }
}
