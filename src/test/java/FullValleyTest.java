/** A valley that is full: seven people, ten things, every hand shut, and each call asked of all of them. */
public final class FullValleyTest {
    private static final String PEOPLE = "person age 0 grip 1;person age 0 grip 2;person age 0 grip 3;person age 0 grip 4;"
        + "person age 0 grip 5;person age 0 grip 6;person age 0 grip 7;"
        + "heir 0 1;heir 1 2;heir 2 3;heir 3 4;heir 4 5;heir 5 6;heir 6 0";
    private static final String THINGS = "thing worth 10 size 1 of 0 held 0;thing worth 11 size 2 of 1 held 1;"
        + "thing worth 12 size 3 of 2 held 2;thing worth 13 size 4 of 3 held 3;thing worth 14 size 5 of 4 held 4;"
        + "thing worth 15 size 6 of 5 held 5;thing worth 16 size 7 of 6 held 6;"
        + "thing worth 50 size 1 of 0 cloth 6;thing worth 60 size 12 of 6 cloth 6;crown worth 70 size 7";

    public static void main(String[] args) {
        Check.about("a full valley");
        people();
        things();
        reckonings();
        told();
        nights();
        refusals();
        Check.end();
    }

    private static GripEstates full() {
        return Check.of(PEOPLE, THINGS);
    }

    private static void people() {
        GripEstates x = full();
        Edges.person(x, 1, 1, 2, 3, 4, 5, 6, 7);
        Edges.person(x, 2, 1, 2, 3, 4, 5, 6, 0);
        Edges.person(x, 5, 0, 1, 2, 3, 4, 5, 6);
        Edges.person(x, 6, 1, 2, 3, 4, 5, 6, 7);
        Edges.person(x, 7, 0, 0, 0, 0, 0, 0, 0);
        Edges.person(x, 8, 129, 2, 4, 8, 16, 32, 320);
        Edges.person(x, 9, 0, 0, 0, 0, 0, 0, 384);
        Edges.person(x, 10, 1, 2, 3, 4, 5, 6, 0);
        Edges.person(x, 11, 10, 11, 12, 13, 14, 15, 16);
        Edges.person(x, 12, 50, 0, 0, 0, 0, 0, 60);
        Edges.person(x, 13, 127, 127, 127, 127, 127, 127, 127);
        Edges.person(x, 14, 64, 1, 2, 4, 8, 16, 32);
        Edges.person(x, 15, 0, 0, 0, 0, 0, 0, 0);
        Edges.person(x, 16, 0, 1, 2, 3, 4, 5, 6);
        // Of 271 in all: 60, 11, 12, 13, 14, 15 and 76.
        Edges.person(x, 17, 22, 4, 4, 4, 5, 5, 28);
        x.open(6);
        Check.due("hoped of a cloth of two", 2500, x.person(6, 15));
        Check.due("shuts", 5000, x.shuts(6, 7));
        Check.due("shuts on what is too large", 0, x.shuts(6, 8));
        Check.due("shuts on the last", 0, x.shuts(6, 9));
    }

    private static void things() {
        GripEstates x = full();
        Edges.thing(x, 0, 10, 11, 12, 13, 14, 15, 16, 50, 60, 70);
        Edges.thing(x, 1, 1, 2, 3, 4, 5, 6, 7, 1, 12, 7);
        Edges.thing(x, 2, 0, 1, 2, 3, 4, 5, 6, 0, 6, -1);
        Edges.thing(x, 3, 1, 1, 1, 1, 1, 1, 1, 2, 2, 0);
        Edges.thing(x, 4, 0, 1, 2, 3, 4, 5, 6, 6, 6, -1);
        int[] counts = {7, 10, 2, -1, 0, 2, 0, 271, 7, 2, 0, 0};
        for (int what = 0; what < counts.length; what++) {
            Check.due("count " + what, counts[what], x.count(what));
        }
        Check.due("crown", 512, x.crown());
        Check.due("wealth", 70, x.wealth());
        Check.due("twins", 0, x.twins());
        Check.due("clear the last on a cloth", 6, x.clear(8));
        Check.due("give it", 6, x.give(8, 0));
        Check.due("lay it", 1, x.lay(8, 0));
    }

    private static void reckonings() {
        GripEstates x = full();
        Check.due("living", 127, x.living());
        Check.due("idle", 0, x.idle());
        Check.due("round", 127, x.round());
        Check.due("escheat", 0, x.escheat());
        Check.due("watch", 43, x.watch());
        Check.due("put", 185, x.put(-1));
        int[] put = {7, 1, 2, 3, 4, 5, 9};
        int[] pairs = {-1, 3, 5, 1, 6, 2, 4};
        int[] rests = {0, 0, 0, 0, 8, 8, 8};
        for (int p = 0; p < 7; p++) {
            Check.due("put " + p, put[p], x.put(p));
            Check.due("pairs " + p, pairs[p], x.pairs(p));
            Check.due("rests " + p, rests[p], x.rests(p));
            Check.due("ahead " + p, p, x.ahead(p, 60));
            Check.due("led " + p, -1, x.led(p, true));
        }
        // Of 1 to 7 all but the weakest, each with one who is neither heir nor whose heir it is.
        Check.due("pairs", 27, x.pairs(-1));
        Check.due("hoard of the last", 76, x.hoard(6, 120, false));
        Check.due("which", 320, x.hoard(6, 120, true));
        Check.due("odds", 10000, x.odds(4));
        Check.due("oldest", 0, x.most(0));
        Check.due("strongest", 6, x.most(1));
        Check.due("richest", 6, x.most(2));
    }

    private static void told() {
        GripEstates x = full();
        Check.tape(x, 1, 7, 1, 7);
        Check.dueOf("held", 576, x::held);
        Check.tape(x, 2, 9, 2, 9);
        Check.dueOf("likely", 9, x::likely);
        Check.tape(x);
        // By worth all are parted, by size the greatest part is two, by owner two.
        Check.dueOf("ask", 0, x::ask);
        Check.tape(x);
        Check.dueOf("held of no row", 1023, x::held);
    }

    private static void nights() {
        GripEstates x = full();
        Check.due("nobody dies", 0, x.nights(40));
        Check.due("nobody lets go", 0, x.count(10));
        Check.due("seven draws a night", Edges.seedAfter(1, 280), Edges.seedNow(x));
        Edges.person(x, 0, 4, 4, 4, 4, 4, 4, 4);
        Edges.tell(x, "death 100");
        Check.due("trial", 0, x.trial(1, false));
        Check.due("trial", 271, x.trial(1, true));
        Check.due("span", 271, x.span(60, false));
        Check.due("all die", 7, x.nights(1));
        Check.due("all is the crown's", 1023, x.crown());
        Check.due("its wealth", 271, x.wealth());
        for (int p = 0; p < 7; p++) {
            Edges.row(x, 6 - p, 40, p, 3, p, 4);
            Check.due("led", 40, x.led(p, true));
        }
        Check.due("nobody watches", 0, x.watch());
        Check.due("nobody pairs", 0, x.pairs(-1));
        Check.due("no hand holds", 0, x.put(-1));
        Edges.person(x, 10, -1, -1, -1, -1, -1, -1, -1);
        Edges.person(x, 16, -1, -1, -1, -1, -1, -1, -1);
        Check.due("what the dead go round by", 127, x.round());
    }

    private static void refusals() {
        GripEstates x = full();
        Edges.wrongValley(x, "@person age 0 grip 0");
        Edges.wrongValley(x, "@thing worth 0 size 1 of 0");
        Edges.wrongValley(x, "@crown worth 0 size 1");
        Check.refused("born", Check.STATE, x, () -> x.born(0));
        Check.refused("person 7", Check.INDEX, x, () -> x.person(7, 0));
        Check.refused("thing 10", Check.INDEX, x, () -> x.thing(10, 0));
        for (int t = 0; t < 10; t++) {
            int thing = t;
            Check.refused("lay " + t, Check.STATE, x, () -> x.lay(thing, 0));
            Check.refused("wake " + t, Check.STATE, x, () -> x.wake(thing));
            Check.refused("give " + t, Check.STATE, x, () -> x.give(thing, 3));
        }
    }
}
