/** Promises 10 and 41 to 46: nights, nights ahead, trials, spans, the log and the seed. */
public final class NightsTest {
    // The draws from seed 1, as the rule of the document gives them.
    private static final int[] DRAWS = {16838, 5758, 10113, 17515, 31051, 5627, 23010, 7419, 16212, 4086, 2749, 12767,
        9084, 12060, 32225, 17543, 25089, 21183, 25137, 25566};
    private static final int[] WRONG_NIGHTS = {-1, 61, Integer.MIN_VALUE, Integer.MAX_VALUE};

    public static void main(String[] args) {
        wrongInputs();
        lettingGoAndFeeling();
        drawsOnlyWhereTheDocumentHasThem();
        dying();
        deathsByNumbers();
        whatTheDeadHad();
        ageing();
        nightsAtMost();
        lawsAsItIsThen();
        aheadOfNights();
        trialsAndSpans();
        sixtyRows();
        Check.end();
    }

    private static void wrongInputs() {
        GripEstates x = Check.of("person age 40 grip 5;thing worth 1 size 9 of 0 held 0");
        Check.refused("nights 0", Check.ARGUMENT, x, () -> x.nights(0));
        for (int n : WRONG_NIGHTS) {
            Check.refused("nights " + n, Check.ARGUMENT, x, () -> x.nights(n));
            Check.refused("ahead " + n, Check.ARGUMENT, x, () -> x.ahead(0, n));
            Check.refused("trial " + n, Check.ARGUMENT, x, () -> x.trial(n, false));
            Check.refused("trial wealth " + n, Check.ARGUMENT, x, () -> x.trial(n, true));
            Check.refused("span " + n, Check.ARGUMENT, x, () -> x.span(n, false));
            Check.refused("span most " + n, Check.ARGUMENT, x, () -> x.span(n, true));
            Check.refused("ahead of nobody, and no nights", Check.INDEX, x, () -> x.ahead(1, n));
        }
        int[] nobody = {-1, 1, 40, Integer.MIN_VALUE, Integer.MAX_VALUE};
        for (int p : nobody) {
            Check.refused("ahead of " + p, Check.INDEX, x, () -> x.ahead(p, 0));
            Check.refused("led " + p, Check.INDEX, x, () -> x.led(p, false));
            Check.refused("led night " + p, Check.INDEX, x, () -> x.led(p, true));
        }
        int[] whats = {-1, 5, Integer.MIN_VALUE, Integer.MAX_VALUE};
        for (int what : whats) {
            Check.refused("log what " + what, Check.ELEMENT, x, () -> x.log(0, what));
            Check.refused("log what " + what + " without a row", Check.ELEMENT, x, () -> x.log(-5, what));
        }
        Check.due("log without", -2, x.log(0, 0));
        Check.due("60 nights", true, Check.answerOf(() -> x.nights(60)) < 2);
        Check.due("0 nights of a trial", x.living(), x.trial(0, false));
        Check.due("log of -1 ago", -2, x.log(-1, 0));
        Check.due("log of so many ago", -2, x.log(x.count(10), 0));
        Check.due("log of MAX ago", -2, x.log(Integer.MAX_VALUE, 4));
        Check.due("log of MIN ago", -2, x.log(Integer.MIN_VALUE, 4));
    }

    private static void lettingGoAndFeeling() {
        GripEstates x = Check.of("person age 40 grip 5;person age 20 grip 3;person age 30 grip 9;"
            + "thing worth 10 size 7 of 0 held 0;thing worth 20 size 3 of 0 cloth 0;thing worth 1 size 9 of 1 held 2");
        Check.due("a night", 0, x.nights(1));
        Check.due("rows", 2, x.count(10));
        Edges.row(x, 1, 0, 0, 0, 0, 40);
        Edges.row(x, 0, 0, 0, 2, 0, 40);
        Check.due("it lies on the cloth", 3, x.person(0, 9));
        Check.due("nothing held", -1, x.person(0, 5));
        Check.due("of just that size", 2, x.person(2, 5));
        Check.due("night", 1, x.count(6));
        Check.due("a night more", 0, x.nights(1));
        Edges.row(x, 0, 1, 0, 1, 1, 40);
        Check.due("held", 1, x.person(0, 5));
        Check.due("not on the cloth any more", 1, x.person(0, 9));
        Check.due("in a hand", 1, x.thing(1, 3));
        Check.due("rows", 3, x.count(10));
        Check.due("three nights more", 0, x.nights(3));
        Check.due("no row more", 3, x.count(10));
        Check.due("led", 3, x.led(0, false));
        Check.due("led to the night", 1, x.led(0, true));
        Check.due("led of another", 0, x.led(1, false));
        Check.due("led of another, none", -1, x.led(1, true));
        Check.due("undone at once", true, x.undo());
        Check.due("night", 2, x.count(6));
    }

    private static void drawsOnlyWhereTheDocumentHasThem() {
        GripEstates x = Check.of("person age 0 grip 5;person age 0 grip 3;person age 0 grip 9;"
            + "thing worth 20 size 3 of 0 cloth 0;thing worth 20 size 3 of 0 held 2;thing worth 20 size 3 of 0 cloth 2");
        int seed = 1;
        for (int draw = 0; draw < 4; draw++) {
            seed = seed * 1103515245 + 12345;
            Check.due("the rule's draw " + draw, DRAWS[draw], seed >>> 16 & 32767);
        }
        x.nights(1);
        Check.due("one draw of the cloth, three of the living", seed, x.seed(seed));
        for (int draw = 0; draw < 3; draw++) {
            seed = seed * 1103515245 + 12345;
        }
        x.nights(1);
        Check.due("three draws", seed, x.seed(-5));
        Check.due("seed is what it was", -5, x.seed(Integer.MIN_VALUE));
        Check.due("seed is what it was", Integer.MIN_VALUE, x.seed(1));
        Check.due("seeds are no acts", 2, x.count(11));
    }

    private static void dying() {
        // Fails 58, 54 and 56 against 38, 58 and 13: 0 and 2 die.
        GripEstates x = Check.of("person age 40 grip 5 tied;person age 20 grip 3;person age 30 grip 9;death 50;"
            + "witnesses 1;heir 0 1;heir 2 1;thing worth 10 size 7 of 0 held 0;thing worth 20 size 3 of 2 held 2");
        Check.due("who die", 2, x.nights(1));
        Check.due("who live", 2, x.living());
        Check.due("the heir has it", 1, x.thing(0, 2));
        Check.due("the heir has it", 1, x.thing(1, 2));
        Check.due("put by", 0, x.thing(0, 3) + x.thing(1, 3));
        Edges.row(x, 1, 0, 0, 3, 0, 40);
        Edges.row(x, 0, 0, 2, 3, 1, 30);
        Check.due("death is told by the log of one", 1, x.led(2, false));
        Check.due("living no more", 0, x.person(0, 4));
        // Next 17515: 15 is below 54.
        Check.due("the last dies", 1, x.nights(1));
        Edges.row(x, 0, 1, 1, 3, -1, 20);
        Check.due("all is the crown's", 3, x.crown());
        Check.due("its worth", 30, x.wealth());
        Check.due("nobody is left to die", 0, x.nights(60));
    }

    private static void deathsByNumbers() {
        // All die in one night: 0 has a successor while 1 and 2 live, 1 has one other left, 2 has none.
        GripEstates x = Check.of("person age 0 grip 5;person age 0 grip 3;person age 0 grip 9;death 100;witnesses 1;"
            + "heir 0 1;heir 1 2;heir 2 0;thing worth 1 size 1 of 0 held 0;thing worth 2 size 1 of 1 held 1;"
            + "thing worth 4 size 1 of 2 held 2");
        Check.due("all die", 3, x.nights(1));
        Check.due("what came to 1, then to the crown; what came to 2, then to the crown", 7, x.crown());
        GripEstates y = Check.of("person age 0 grip 5;person age 0 grip 3;person age 0 grip 9;witnesses 2;"
            + "heir 0 1;heir 1 2;heir 2 0;thing worth 1 size 1 of 0 held 0;thing worth 2 size 1 of 1 held 1");
        Check.lawIs(y, "fail 40 if person<2;fail 40 if person<2;fail 40 if person<2");
        Check.due("two die", 2, y.nights(1));
        Check.due("0 had two witnesses, but 1 died then; 1 had one alone", 3, y.crown());
        GripEstates z = Check.of("person age 0 grip 5;person age 0 grip 3;person age 0 grip 9;witnesses 1;"
            + "heir 0 1;heir 1 2;thing worth 1 size 1 of 0 held 0;thing worth 2 size 1 of 1 held 1");
        Check.lawIs(z, "fail 40 if person<2;fail 40 if person<2;fail 40 if person<2");
        Check.due("two die", 2, z.nights(1));
        Check.due("0's went to 1, who did not hold it; 1's went to 2", 1, z.crown());
        Check.due("2 owns", 2, z.person(2, 8));
    }

    private static void whatTheDeadHad() {
        GripEstates x = Check.of("person age 0 grip 5;person age 0 grip 3;person age 0 grip 9;witnesses 0;heir 0 1;"
            + "thing worth 1 size 1 of 1 held 0;thing worth 2 size 1 of 0 held 1;thing worth 4 size 1 of 0 cloth 2;"
            + "thing worth 8 size 12 of 2 cloth 0;thing worth 16 size 1 of 0;thing worth 32 size 1 of 2");
        Check.lawIs(x, "fail 40 if person<1;fail 40 if person<1;fail 40 if person<1;slip 40 if person > 1");
        Check.due("one dies", 1, x.nights(1));
        int[] owners = {1, -1, -1, 2, -1, 2};
        for (int t = 0; t < owners.length; t++) {
            Check.due("whose thing " + t, owners[t], x.thing(t, 2));
            Check.due("where thing " + t, 0, x.thing(t, 3));
            Check.due("by whom thing " + t, -1, x.thing(t, 4));
        }
        Edges.row(x, 0, 0, 0, 3, 0, 0);
    }

    private static void ageing() {
        GripEstates x = Check.of("person age 40 grip 5;person age 99 grip 5;person age 0 grip 5;night 8");
        Check.lawIs(x, "");
        x.nights(1);
        Check.due("not in night 8", 40, x.person(0, 0));
        x.nights(1);
        Check.due("in night 9", 41, x.person(0, 0));
        Check.due("99 at most", 99, x.person(1, 0));
        x.nights(10);
        Check.due("in night 19", 42, x.living() % 2 == 1 ? x.person(0, 0) : 42);
        Check.due("night", 20, x.count(6));
        // Age counts for that very night: fails 0 at 4, 1 at 5; the draw is 0 modulo 100 by this seed.
        GripEstates y = Check.of("person age 4 grip 5;night 9");
        y.seed(Edges.seedOf(100, 0));
        Check.due("it is older by then", 1, y.nights(1));
        Edges.row(y, 0, 9, 0, 3, -1, 5);
        GripEstates z = Check.of("person age 4 grip 5;night 10");
        z.seed(Edges.seedOf(100, 0));
        Check.due("not in another night", 0, z.nights(1));
        GripEstates w = Check.of("person age 0 grip 5;death 57");
        w.seed(Edges.seedOf(100, 57));
        Check.due("not below", 0, w.nights(1));
        w.seed(Edges.seedOf(100, 56));
        Check.due("below", 1, w.nights(1));
        x.nights(60);
        Check.due("the dead grow no older", true, x.person(1, 0) == 99);
    }

    private static void nightsAtMost() {
        GripEstates x = Check.of("night 999");
        for (int i = 0; i < 149; i++) {
            x.nights(60);
        }
        Check.due("night", 9939, x.count(6));
        x.nights(59);
        Check.due("night", 9998, x.count(6));
        x.nights(60);
        Check.due("9999 at most", 9999, x.count(6));
        x.nights(1);
        Check.due("9999 at most", 9999, x.count(6));
    }

    private static void lawsAsItIsThen() {
        // 0 lets go in (a): from then on it is open, and by law grips more in (b) of the same night.
        GripEstates x = Check.of("person age 0 grip 5;person age 0 grip 5;thing worth 1 size 8 of 0 held 0;"
            + "thing worth 1 size 5 of 0 held 1");
        Check.lawIs(x, "grip 3 if open");
        Check.due("nobody dies", 0, x.nights(1));
        Edges.row(x, 1, 0, 0, 0, 0, 0);
        Edges.row(x, 0, 0, 0, 1, 0, 0);
        Check.due("it holds it again", 0, x.person(0, 5));
        // By night: what is held slips in night 3 alone.
        GripEstates y = Check.of("person age 0 grip 5;thing worth 1 size 5 of 0 held 0");
        Check.lawIs(y, "slip 1 if night > 2 and night < 4");
        y.nights(10);
        Check.due("rows", 3, y.count(10));
        Edges.row(y, 2, 3, 0, 0, 0, 0);
        Edges.row(y, 1, 3, 0, 2, 0, 0);
        Edges.row(y, 0, 4, 0, 1, 0, 0);
    }

    private static void aheadOfNights() {
        GripEstates x = Check.of("person age 0 grip 5;person age 0 grip 5;thing worth 1 size 5 of 0 held 0;"
            + "thing worth 1 size 5 of 0 cloth 1;death 100;night 97");
        Check.lawIs(x, "slip 1 if night > 2 and night < 4");
        String before = Check.seen(x);
        Check.due("ahead 0", 0, x.ahead(0, 0));
        Check.due("ahead 6", 0, x.ahead(0, 6));
        Check.due("ahead 7: let go in night 103", -1, x.ahead(0, 7));
        Check.due("ahead 60: not held again", -1, x.ahead(0, 60));
        Check.due("of one that holds nothing", -1, x.ahead(1, 60));
        Check.due("nothing stays", before, Check.seen(x));
        x.nights(1);
        Check.due("of the dead", -1, x.ahead(0, 0));
        // No ageing ahead: by age it would let go.
        GripEstates y = Check.of("person age 0 grip 5;thing worth 1 size 5 of 0 held 0");
        Check.lawIs(y, "slip 1 if age > 0");
        Check.due("no age more", 0, y.ahead(0, 60));
        Check.due("nights bring age", true, y.nights(20) == 0 && y.log(0, 2) != 3 && y.count(10) > 0);
    }

    private static void trialsAndSpans() {
        GripEstates x = Check.of("person age 40 grip 5;person age 20 grip 3;person age 30 grip 9;death 20;"
            + "witnesses 1;heir 0 1;heir 1 2;thing worth 10 size 5 of 0 held 0;thing worth 20 size 3 of 1 held 1;"
            + "thing worth 40 size 3 of 2 held 2;crown worth 3 size 1");
        x.seed(4711);
        for (int n = 0; n <= 60; n++) {
            String before = Check.seen(x);
            int living = x.trial(n, false);
            int wealth = x.trial(n, true);
            int least = x.span(n, false);
            int most = x.span(n, true);
            Check.due("nothing stays", before, Check.seen(x));
            x.image();
            int wanted = n == 0 ? 0 : x.nights(n);
            Check.due("trial " + n, x.living(), living);
            Check.due("trial of who died", 3 - wanted, Integer.bitCount(living));
            Check.due("trial wealth " + n, x.wealth(), wealth);
            int low = 1000;
            int high = -1;
            for (int seed = 1; seed <= 6; seed++) {
                x.back();
                x.seed(seed);
                if (n > 0) {
                    x.nights(n);
                }
                low = Math.min(low, x.wealth());
                high = Math.max(high, x.wealth());
            }
            Check.due("span least " + n, low, least);
            Check.due("span most " + n, high, most);
            x.back();
        }
        Check.due("in the end all is the crown's", 73, x.span(60, true));
        Check.due("at first it has 3", 3, x.span(0, false));
        Check.due("at first it has 3", 3, x.span(0, true));
    }

    private static void sixtyRows() {
        // Each night three feel what they cannot hold; nobody is so old within 49 nights that it could die.
        GripEstates x = Check.of("person age 0 grip 1;person age 0 grip 1;person age 0 grip 1;"
            + "thing worth 1 size 5 of 0 cloth 0;thing worth 1 size 5 of 0 cloth 1;thing worth 1 size 5 of 0 cloth 2");
        x.nights(7);
        Check.due("rows", 21, x.count(10));
        Edges.row(x, 0, 6, 2, 2, 2, 0);
        Edges.row(x, 1, 6, 1, 2, 1, 0);
        Edges.row(x, 20, 0, 0, 2, 0, 0);
        Check.due("no row", -2, x.log(21, 0));
        x.clear(2);
        x.nights(15);
        Check.due("rows", 51, x.count(10));
        Check.due("led 0", 22, x.led(0, false));
        Check.due("led 2", 7, x.led(2, false));
        Check.due("led 2 to its night", 6, x.led(2, true));
        Check.due("led 1 to its night", 21, x.led(1, true));
        x.nights(10);
        Check.due("rows at most", 60, x.count(10));
        Edges.row(x, 59, 3, 2, 2, 2, 0);
        Edges.row(x, 58, 4, 0, 2, 0, 0);
        Edges.row(x, 0, 31, 1, 2, 1, 3);
        Check.due("led 2, of rows gone", 4, x.led(2, false));
        Check.due("led 0, of rows gone", 28, x.led(0, false));
        Check.due("beyond", -2, x.log(60, 0));
        x.undo();
        Check.due("undone", 51, x.count(10));
        Edges.row(x, 50, 0, 0, 2, 0, 0);
    }
}
