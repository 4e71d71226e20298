/** The document's sentences on what is reckoned of a valley that name an edge: each has a test of its own, in its order. */
public final class EdgesOfReckoningsTest {
    public static void main(String[] args) {
        estates();
        losses();
        shuts();
        hoped();
        hoards();
        hoardsOfSeveral();
        lines();
        rounds();
        escheats();
        hangs();
        watching();
        puttingWhosever();
        putting();
        puttingFirst();
        coresOfTheirOwn();
        coresOfNothing();
        rowsOfThings();
        oneWrongAtMost();
        likelyOnes();
        asking();
        sizesTold();
        strengths();
        leastStrengths();
        trying();
        fingersOfN();
        whoCannot();
        opening();
        pairing();
        pairingFirst();
        resting();
        oddsOfN();
        foremost();
        setsOfAll();
        twins();
        shares();
        trials();
        spans();
        led();
        Check.end();
    }

    private static GripEstates of(int people, String more) {
        return Check.of(Edges.peopleText(people) + ";" + more);
    }

    private static void estates() {
        Edges.says("ESTATE of a person: WORTH of what it holds of its own, if it has a SUCCESSOR (else 0);");
        GripEstates x = of(5, "heir 0 1;heir 1 0;heir 3 0;heir 4 0;thing worth 99 size 12 of 0 held 0;"
            + "thing worth 9 size 1 of 0 held 1;thing worth 8 size 1 of 2 held 2;thing worth 0 size 1 of 3 held 3");
        Edges.person(x, 11, 99, 0, 0, 0, 0);
        x.heir(2, 0);
        Check.due("with an heir", 8, x.person(2, 11));
        Edges.tell(x, "witnesses 5");
        Edges.person(x, 11, 0, 0, 0, 0, 0);
    }

    private static void losses() {
        Edges.says("LOST of it: WORTH of all that it OWNS, less ESTATE (0 both of a dead one).");
        GripEstates x = of(3, "heir 0 1;heir 1 0;thing worth 7 size 1 of 0 held 0;thing worth 2 size 1 of 0 held 1;"
            + "thing worth 4 size 12 of 0 cloth 2");
        Edges.person(x, 12, 6, 0, 0);
        Edges.tell(x, "witnesses 3");
        Edges.person(x, 12, 13, 0, 0);
        Edges.die(x, "person < 1", 1);
        Edges.person(x, 11, 0, 0, 0);
        Edges.person(x, 12, 0, 0, 0);
        GripEstates all = of(1, "thing worth 99 size 1 of 0" + ";thing worth 99 size 1 of 0".repeat(9));
        Check.due("the most that can be", 990, all.person(0, 12));
    }

    private static void shuts() {
        Edges.says("SHUTS of a person and a THING: 10000 by how many lie on its CLOTH, rounded down, if it lies there, too, the "
            + "person is LIVING and holds nothing and SIZE is its GRIPS at most; else 0.");
        GripEstates x = of(2, "thing worth 1 size 5 of 1" + ";thing worth 1 size 5 of 1".repeat(8) + ";thing worth 1 size 6 of 1");
        int[] shares = {10000, 5000, 3333, 2500, 2000, 1666, 1428, 1250, 1111};
        for (int t = 0; t < 9; t++) {
            Check.due("it does not lie there", 0, x.shuts(0, t));
            x.lay(t, 0);
            Check.due("of " + (t + 1), shares[t], x.shuts(0, t));
            Check.due("not of another's cloth", 0, x.shuts(1, t));
        }
        x.lay(9, 0);
        Check.due("too large", 0, x.shuts(0, 9));
        Check.due("but it lies there", 1000, x.shuts(0, 0));
        x.tie(0, true);
        Check.due("by wool not too large", 1000, x.shuts(0, 9));
        x.clear(8);
        x.give(8, 0);
        x.wake(8);
        Check.due("a full hand", 0, x.shuts(0, 0));
        Check.due("what it holds", 0, x.shuts(0, 8));
        Edges.die(x, "person < 1", 1);
        Check.due("a dead one", 0, x.shuts(0, 0));
    }

    private static void hoped() {
        Edges.says("by how many lie there, rounded down, if it is LIVING and holds nothing (else, and with none there, 0).");
        GripEstates x = of(2, "thing worth 1 size 5 of 1 cloth 0;thing worth 50 size 6 of 1 cloth 0;"
            + "thing worth 50 size 6 of 1 cloth 0;thing worth 3 size 1 of 1");
        Edges.person(x, 15, 33, 0);
        x.clear(0);
        Check.due("none that fits", 0, x.person(0, 15));
        x.wake(3);
        x.lay(0, 1);
        Check.due("a full hand", 0, x.person(1, 15));
        x.open(1);
        Check.due("one alone", 100, x.person(1, 15));
        Edges.die(x, "person > 0", 1);
        Check.due("a dead one", 0, x.person(1, 15));
        GripEstates all = of(1, "thing worth 99 size 5 of 0 cloth 0" + ";thing worth 99 size 5 of 0 cloth 0".repeat(9));
        Check.due("ten of the most", 9900, all.person(0, 15));
    }

    private static void hoards() {
        Edges.says("HOARD of a person and W (0 to 120): of THINGS that it OWNS such of SIZES of W at most together");
        GripEstates x = of(2, "thing worth 99 size 12 of 0" + ";thing worth 99 size 12 of 0".repeat(9));
        Check.due("room for all", 990, x.hoard(0, 120, false));
        Check.due("which", 1023, x.hoard(0, 120, true));
        Check.due("room for all but one", 891, x.hoard(0, 119, false));
        Check.due("which, the least as bits", 511, x.hoard(0, 119, true));
        Check.due("room for one", 99, x.hoard(0, 12, false));
        Check.due("room for none", 0, x.hoard(0, 11, false));
        Check.due("which", 0, x.hoard(0, 11, true));
        Check.due("no room", 0, x.hoard(0, 0, false));
        Check.due("who owns nothing", 0, x.hoard(1, 120, false));
        Check.refused("-1", Check.ARGUMENT, x, () -> x.hoard(0, -1, false));
        Check.refused("121", Check.ARGUMENT, x, () -> x.hoard(0, 121, true));
        Edges.die(x, "person < 1", 1);
        Check.due("a dead one", 0, x.hoard(0, 120, true));
    }

    private static void hoardsOfSeveral() {
        Edges.says("how much; WHICH: these (of several the fewest, of these the least as bits).");
        GripEstates x = of(1, "thing worth 3 size 3 of 0;thing worth 2 size 2 of 0;thing worth 1 size 1 of 0;"
            + "thing worth 3 size 3 of 0;thing worth 0 size 1 of 0");
        Check.due("one, not two, and the first", 1, x.hoard(0, 3, true));
        Check.due("two, not three: 3 and 2", 3, x.hoard(0, 5, true));
        Check.due("two of 3", 9, x.hoard(0, 6, true));
        Check.due("two of 3 and 1", 13, x.hoard(0, 7, true));
        Check.due("all that is worth something", 15, x.hoard(0, 120, true));
        GripEstates y = of(1, "thing worth 0 size 1 of 0;thing worth 0 size 1 of 0");
        Check.due("of no worth none", 0, y.hoard(0, 120, true));
        GripEstates least = of(1, "thing worth 0 size 1 of 0;thing worth 1 size 1 of 0");
        Check.due("of the least worth", 1, least.hoard(0, 1, false));
        Check.due("which", 2, least.hoard(0, 1, true));
    }

    private static void lines() {
        Edges.says("LINE of a person: PEOPLE whom one comes to by HEIR, HEIR of that, and on (without itself, unless it goes round "
            + "to itself), as bits.");
        GripEstates x = Edges.people(7);
        Edges.person(x, 13, 0, 0, 0, 0, 0, 0, 0);
        for (int p = 0; p < 6; p++) {
            x.heir(p, p + 1);
        }
        Edges.person(x, 13, 126, 124, 120, 112, 96, 64, 0);
        x.heir(6, 0);
        Edges.person(x, 13, 127, 127, 127, 127, 127, 127, 127);
        x.heir(6, 5);
        Edges.person(x, 13, 126, 124, 120, 112, 96, 96, 96);
    }

    private static void rounds() {
        Edges.says("ROUND: PEOPLE who come to themselves so, as bits.");
        GripEstates x = Edges.people(7);
        Check.due("nobody", 0, x.round());
        for (int p = 0; p < 6; p++) {
            x.heir(p, p + 1);
        }
        Check.due("a line that ends", 0, x.round());
        x.heir(6, 0);
        Check.due("all seven", 127, x.round());
        x.heir(6, 5);
        Check.due("the last two", 96, x.round());
        Edges.die(x, "person > 4", 2);
        Check.due("dead ones, too", 96, x.round());
    }

    private static void escheats() {
        Edges.says("ESCHEAT: LIVING ones without a SUCCESSOR, as bits.");
        GripEstates x = Edges.people(7);
        Check.due("all", 127, x.escheat());
        for (int p = 0; p < 7; p++) {
            x.heir(p, (p + 1) % 7);
        }
        Check.due("nobody", 0, x.escheat());
        x.heir(6, -1);
        Check.due("the last", 64, x.escheat());
        Edges.die(x, "person > 0", 6);
        Check.due("the dead do not count", 1, x.escheat());
    }

    private static void hangs() {
        Edges.says("HANGS on a person: LIVING ones whose SUCCESSOR it is, as bits.");
        GripEstates x = Edges.people(7);
        for (int p = 0; p < 6; p++) {
            x.heir(p, 6);
        }
        Edges.person(x, 14, 0, 0, 0, 0, 0, 0, 63);
        Edges.die(x, "person < 1", 1);
        Check.due("a dead one hangs on nobody", 62, x.person(6, 14));
        x.heir(6, 1);
        Edges.die(x, "person > 5", 1);
        Edges.person(x, 14, 0, 60, 0, 0, 0, 0, 0);
    }

    private static void watching() {
        Edges.says("WATCH: the fewest LIVING ones so that each LIVING one is one of them, or has one of them as its SUCCESSOR: of "
            + "several the least as bits.");
        GripEstates x = Edges.people(7);
        Check.due("each by itself", 127, x.watch());
        for (int p = 0; p < 7; p++) {
            x.heir(p, (p + 1) % 7);
        }
        // Of a round of seven four: 5 must be one (or 6), 0 with it, and of 1 to 4 the least are 1 and 3.
        Check.due("a round of seven", 43, x.watch());
        for (int p = 0; p < 6; p++) {
            x.heir(p, 6);
        }
        x.heir(6, -1);
        Check.due("all by one", 64, x.watch());
        x.heir(6, 0);
        Check.due("still all by one", 64, x.watch());
        Edges.die(x, "person > 5", 1);
        // 0 comes to itself by the dead one; all others come to 0.
        Check.due("all by 0", 1, x.watch());
        Edges.die(x, "person < 6", 6);
        Check.due("nobody lives", 0, x.watch());
        Check.due("there is nobody", 0, new GripEstates().watch());
    }

    private static void puttingWhosever() {
        Edges.says("PUT: THINGS (whoever's, wherever, those that others hold, too) put to HANDS of LIVING ones,");
        GripEstates x = of(4, "crown worth 1 size 5;thing worth 2 size 5 of 0 held 3;thing worth 4 size 12 of 0;"
            + "thing worth 8 size 5 of 1 cloth 3;thing worth 16 size 5 of 3 held 0");
        // In four hands all but the large one.
        Check.due("how much", 27, x.put(-1));
        int[] which = {0, 1, 3, 4};
        for (int p = 0; p < 4; p++) {
            Check.due("which", which[p], x.put(p));
        }
        Edges.die(x, "person > 2", 1);
        Check.due("in three hands", 26, x.put(-1));
        Check.due("the dead one has none", -1, x.put(3));
        Edges.die(x, "person < 3", 3);
        Check.due("nobody lives", 0, x.put(-1));
    }

    private static void putting() {
        Edges.says("each to one at most, SIZE its GRIPS at most, one to a HAND at most, so that WORTH of all so put is together the "
            + "most: how much;");
        Check.due("nobody", 0, new GripEstates().put(-1));
        Check.due("nothing", 0, Edges.people(2).put(-1));
        GripEstates two = of(2, "thing worth 9 size 5 of 0");
        Check.due("one thing, two hands", 9, two.put(-1));
        GripEstates one = of(1, "thing worth 9 size 5 of 0;thing worth 8 size 5 of 0;thing worth 99 size 6 of 0");
        Check.due("two things, one hand", 9, one.put(-1));
        Check.due("which", 0, one.put(0));
        one.tie(0, true);
        Check.due("not too large any more", 99, one.put(-1));
        Check.due("which", 2, one.put(0));
        GripEstates full = of(7, "crown worth 1 size 5;crown worth 2 size 5;crown worth 3 size 5;crown worth 4 size 5;"
            + "crown worth 5 size 5;crown worth 6 size 5");
        Edges.tell(full, "crown worth 7 size 5;crown worth 8 size 5;crown worth 9 size 5;crown worth 10 size 5");
        Check.due("seven of ten", 49, full.put(-1));
        for (int p = 0; p < 7; p++) {
            Check.due("which", p + 3, full.put(p));
        }
        Edges.die(full, "person > 4", 2);
        Check.due("five of ten", 40, full.put(-1));
        Check.due("which", 5, full.put(0));
        Check.due("the dead have none", -1, full.put(6));
    }

    private static void puttingFirst() {
        Edges.says("which THING one has in the first such way (person by person, none being the least, then the THINGS); none.");
        GripEstates two = of(2, "thing worth 9 size 5 of 0");
        Check.due("none is the least", -1, two.put(0));
        Check.due("so the other has it", 0, two.put(1));
        GripEstates none = of(2, "thing worth 0 size 5 of 0 held 0");
        Check.due("of no worth", -1, none.put(0));
        Check.due("of no worth", -1, none.put(1));
        // What 0 can hold is thing 1 alone, and then 1 has thing 0: what one has, the other has not.
        GripEstates x = Check.of("person age 0 grip 5;person age 0 grip 9;thing worth 5 size 9 of 0;thing worth 10 size 5 of 0");
        Check.due("how much", 15, x.put(-1));
        Check.due("0 has", 1, x.put(0));
        Check.due("1 has", 0, x.put(1));
        GripEstates alike = of(3, "thing worth 4 size 1 of 0;thing worth 4 size 1 of 0;thing worth 4 size 1 of 0");
        for (int p = 0; p < 3; p++) {
            Check.due("the first of like ones", p, alike.put(p));
        }
        // The weaker hand comes first, but needs the small one, which is the later one.
        GripEstates y = Check.of("person age 0 grip 2;person age 0 grip 9;thing worth 7 size 3 of 0;thing worth 7 size 2 of 0;"
            + "thing worth 6 size 1 of 0");
        Check.due("how much", 14, y.put(-1));
        Check.due("0 has", 1, y.put(0));
        Check.due("1 has", 0, y.put(1));
    }

    private static void coresOfTheirOwn() {
        Edges.says("and that which it holds itself (whosever it is, however large), the more WORTH the better (of several the least);");
        GripEstates x = of(7, "thing worth 5 size 1 of 6 held 0;thing worth 5 size 12 of 6 held 1;thing worth 5 size 5 of 6 held 2;"
            + "thing worth 0 size 1 of 6 held 3;thing worth 99 size 12 of 0 held 4");
        Edges.tell(x, "thing worth 98 size 5 of 0 held 5;thing worth 5 size 6 of 6 held 6");
        Edges.person(x, 16, 0, 1, 2, 3, 4, 5, 6);
        Edges.thing(x, 4, 0, 1, 2, 3, 4, 5, 6);
        Edges.person(of(1, "thing worth 0 size 12 of 0 held 0"), 16, 0);
    }

    private static void coresOfNothing() {
        Edges.says("what one has in the end; none, if it holds nothing.");
        GripEstates x = of(3, "thing worth 5 size 1 of 0 held 1;thing worth 5 size 12 of 0 cloth 0;thing worth 5 size 5 of 0");
        Edges.person(x, 16, -1, 0, -1);
        Edges.die(x, "person > 0 and person < 2", 1);
        Edges.person(x, 16, -1, -1, -1);
    }

    private static void held(GripEstates x, long want, int... tape) {
        Check.tape(x, tape);
        Check.dueOf("held " + java.util.Arrays.toString(tape), want, x::held);
    }

    private static void rowsOfThings() {
        Edges.says("HELD: told are rows: what (0 WORTH, 1 SIZE, 2 OWNER: 9 of the CROWN) and how much (0 to 99):");
        GripEstates x = of(7, "thing worth 0 size 1 of 0;thing worth 99 size 12 of 6;crown worth 9 size 9");
        held(x, 1, 0, 0, 0, 0);
        held(x, 2, 0, 99, 0, 99);
        held(x, 1, 1, 1, 1, 1);
        held(x, 2, 1, 12, 1, 12);
        held(x, 1, 2, 0, 2, 0);
        held(x, 2, 2, 6, 2, 6);
        held(x, 4, 2, 9, 2, 9);
        held(x, 0, 1, 0, 1, 13);
        held(x, 0, 2, 7, 2, 99);
        held(x, Check.ARGUMENT, 0, 100);
        held(x, Check.ARGUMENT, 3, 0);
        held(x, Check.ARGUMENT, 255, 255);
    }

    private static void oneWrongAtMost() {
        Edges.says("THINGS of which all rows are so, but for one at most, as bits;");
        GripEstates x = of(1, "thing worth 5 size 5 of 0;thing worth 5 size 6 of 0");
        held(x, 3);
        held(x, 3, 0, 6);
        held(x, 3, 0, 5, 0, 6);
        held(x, 0, 0, 6, 0, 6);
        held(x, 1, 0, 6, 1, 5);
        held(x, 2, 0, 6, 1, 6, 1, 6, 1, 6);
        held(new GripEstates(), 0);
        GripEstates full = of(1, "thing worth 5 size 5 of 0" + ";thing worth 5 size 5 of 0".repeat(9));
        held(full, 1023, 0, 5, 1, 5, 2, 0);
    }

    private static void likely(GripEstates x, long want, int... tape) {
        Check.tape(x, tape);
        Check.dueOf("likely " + java.util.Arrays.toString(tape), want, x::likely);
    }

    private static void likelyOnes() {
        Edges.says("LIKELY: of the fewest wrong rows, of these the most WORTH (of several the least); none;");
        GripEstates x = of(1, "thing worth 5 size 5 of 0;thing worth 7 size 6 of 0;thing worth 7 size 6 of 0;thing worth 9 size 7 of 0");
        likely(x, 3);
        likely(x, 0, 1, 5);
        likely(x, 1, 1, 6);
        likely(x, 3, 1, 8);
        likely(x, -1, 1, 8, 1, 8);
        likely(x, 1, 1, 6, 1, 8);
        likely(new GripEstates(), -1);
    }

    private static void ask(GripEstates x, long want, int... tape) {
        Check.tape(x, tape);
        Check.dueOf("ask " + java.util.Arrays.toString(tape), want, x::ask);
    }

    private static void asking() {
        Edges.says("ASK: the what (0 to 2) by which those that fit are parted so that the greatest part is the least (of several the "
            + "least; none with fewer than two).");
        ask(new GripEstates(), -1);
        ask(of(1, "thing worth 5 size 5 of 0"), -1);
        GripEstates two = of(2, "thing worth 5 size 5 of 0;thing worth 5 size 6 of 1");
        ask(two, 1);
        ask(two, -1, 0, 5, 1, 5, 1, 5);
        ask(two, -1, 0, 6, 0, 6);
        GripEstates alike = of(1, "thing worth 5 size 5 of 0" + ";thing worth 5 size 5 of 0".repeat(9));
        ask(alike, 0);
        GripEstates owners = of(2, "thing worth 5 size 5 of 0;thing worth 5 size 5 of 1;crown worth 5 size 5;thing worth 6 size 5 of 1");
        // By worth 3 and 1, by size 4, by owner 1, 2 and 1.
        ask(owners, 2);
        // What does not fit is in no part: of 0 and 1 alone worth parts, of the others alone size does.
        GripEstates some = of(1, "thing worth 1 size 5 of 0;thing worth 2 size 5 of 0;thing worth 8 size 6 of 0;"
            + "thing worth 8 size 7 of 0;thing worth 8 size 8 of 0;thing worth 8 size 9 of 0");
        ask(some, 0, 1, 5, 1, 5);
        ask(some, 1, 0, 8, 0, 8);
    }

    private static void strong(boolean least, long want, int... tape) {
        GripEstates x = new GripEstates();
        Check.tape(x, tape);
        Check.dueOf("strong " + least + java.util.Arrays.toString(tape), want, () -> x.strong(least));
    }

    private static void sizesTold() {
        Edges.says("STRONG: told are rows: a SIZE (1 to 12) and whether a hand held it (1) or not (0);");
        strong(false, Check.ARGUMENT, 0, 1);
        strong(false, Check.ARGUMENT, 13, 1);
        strong(false, Check.ARGUMENT, 1, 2);
        strong(false, Check.ARGUMENT, 1, 255);
        strong(false, 13, 1, 1);
        strong(false, 13, 12, 0);
    }

    private static void strengths() {
        Edges.says("it is 0 to 12 strong, and holds what is of that SIZE at most; but one row at most may be wrong: those that fit: how "
            + "many;");
        strong(false, 13);
        strong(false, 1, 1, 0, 1, 0);
        strong(false, 12, 1, 1, 1, 1);
        strong(false, 1, 12, 1, 12, 1);
        strong(false, 12, 12, 0, 12, 0);
        strong(false, 2, 6, 1, 6, 1, 8, 0, 8, 0);
        strong(false, 0, 8, 1, 8, 1, 8, 0, 8, 0);
        // Of 8 held twice, and not once: from 8 on one row is wrong, below two.
        strong(false, 5, 8, 1, 8, 1, 8, 0);
    }

    private static void leastStrengths() {
        Edges.says("LEAST: the least of the fewest wrong rows; none.");
        strong(true, 0);
        strong(true, 0, 1, 0);
        strong(true, 1, 1, 1);
        strong(true, 12, 12, 1);
        strong(true, 0, 12, 0);
        strong(true, 8, 8, 1, 8, 1, 8, 0);
        strong(true, 0, 8, 1, 8, 0);
        strong(true, -1, 8, 1, 8, 1, 8, 0, 8, 0);
    }

    private static void tried(long want, int... tape) {
        GripEstates x = new GripEstates();
        Check.tape(x, tape);
        Check.dueOf("test " + java.util.Arrays.toString(tape), want, x::test);
    }

    private static void trying() {
        Edges.says("TRY: the SIZE by which those that fit are parted, by whether it would hold, so that the greater part is the least (of "
            + "several the least; none with fewer than two).");
        tried(6);
        tried(12, 11, 1, 11, 1);
        tried(1, 2, 0, 2, 0);
        tried(-1, 12, 1, 12, 1);
        tried(-1, 1, 0, 1, 0);
        tried(-1, 8, 1, 8, 1, 8, 0, 8, 0);
        // 0 to 2, and 10 to 12: by 3 to 10 into three and three.
        tried(3, 3, 0, 10, 1);
    }

    private static void opens(int n, long want, int... tape) {
        GripEstates x = new GripEstates();
        String told = n + " of " + java.util.Arrays.toString(tape);
        Check.tape(x, tape);
        Check.dueOf("opens " + told, want, () -> x.opens(n));
        Check.tape(x, tape);
        long wins = want == Check.ARGUMENT ? want : want == -1 ? 0 : 1;
        Check.dueOf("fingers " + told, wins, () -> x.fingers(n) ? 1 : 0);
    }

    private static void fingersOfN() {
        Edges.says("FINGERS of N (0 to 99): told are numbers (bytes 1 to 9, at most 6):");
        opens(-1, Check.ARGUMENT, 1);
        opens(100, Check.ARGUMENT, 1);
        opens(99, 1, 1);
        opens(98, -1, 1);
        opens(9, 9, 9);
        opens(9, Check.ARGUMENT, 0);
        opens(9, Check.ARGUMENT, 10);
        opens(9, Check.ARGUMENT, 9, 9, 9, 9, 9, 9, 9);
        opens(9, 9, 9, 9, 9, 9, 9, 9);
        opens(Edges.MIN, Check.ARGUMENT, 1);
        opens(Edges.MAX, Check.ARGUMENT, 1);
    }

    private static void whoCannot() {
        Edges.says("(no more than are left); who cannot (of 0, too) has lost:");
        opens(0, -1, 1, 2, 3, 4, 5, 6);
        opens(0, -1);
        opens(1, -1);
        opens(99, -1);
        opens(8, -1, 9);
        opens(1, -1, 2);
        opens(2, 2, 2);
        opens(3, 2, 2);
        opens(4, -1, 2);
    }

    private static void opening() {
        Edges.says("OPENS: how many she opens first so (of several the least); none, if she loses.");
        // Of 4 one loses by 1, 2 and 3.
        opens(5, 1, 3, 2, 1);
        // Of 0, 2, 8 and 10 one loses by 1 and 9: so of 9 and of 11 one wins by both.
        opens(9, 1, 9, 1);
        opens(9, 1, 1, 9);
        opens(11, 1, 9, 1);
        opens(11, 1, 1, 9);
        opens(10, -1, 9, 1);
        opens(99, 3, 3, 2, 1);
        opens(96, -1, 3, 2, 1);
    }

    private static void pairing() {
        Edges.says("PAIRS: LIVING ones put two by two, each in one such pair at most, no two of whom one is the HEIR of the other, so "
            + "that GRIP of all so put is together the most: how much;");
        Check.due("nobody", 0, new GripEstates().pairs(-1));
        Check.due("one alone", 0, Edges.people(1).pairs(-1));
        GripEstates x = Edges.people(2);
        x.tie(0, true);
        Check.due("two, by grip, not by wool", 10, x.pairs(-1));
        x.heir(0, 1);
        Check.due("one is the other's heir", 0, x.pairs(-1));
        x.heir(0, -1);
        x.heir(1, 0);
        Check.due("one is the other's heir", 0, x.pairs(-1));
        GripEstates y = Edges.people(7);
        Check.due("three pairs of seven", 30, y.pairs(-1));
        Edges.die(y, "person > 2", 4);
        Check.due("one pair of three", 10, y.pairs(-1));
        // Two pairs of less are more than one pair of the most: 9 and 8, or 9 and 2 with 8 and 2.
        GripEstates z = Check.of("person age 0 grip 9;person age 0 grip 8;person age 0 grip 2;person age 0 grip 2;heir 2 3");
        Check.due("two pairs", 21, z.pairs(-1));
    }

    private static void partners(GripEstates x, int... others) {
        for (int p = 0; p < others.length; p++) {
            Check.due("with whom " + p + " is", others[p], x.pairs(p));
        }
    }

    private static void pairingFirst() {
        Edges.says("with whom one is in the first such way (person by person, none being the least, then the others); none.");
        partners(Edges.people(1), -1);
        partners(Edges.people(2), 1, 0);
        partners(Edges.people(5), -1, 2, 1, 4, 3);
        partners(Edges.people(7), -1, 2, 1, 4, 3, 6, 5);
        GripEstates zero = Check.of("person age 0 grip 0;person age 0 grip 0");
        partners(zero, -1, -1);
        GripEstates x = Edges.people(7);
        x.heir(1, 2);
        x.heir(5, 6);
        // 0 with none; 1 with 3, then 2 with 4 would leave 5 and 6, who may not: so 2 with 5, and 4 with 6.
        partners(x, -1, 3, 5, 1, 6, 2, 4);
        Edges.die(x, "person > 5", 1);
        // Of six all are in pairs: 0 with 1, 2 with 3, 4 with 5.
        partners(x, 1, 0, 3, 2, 5, 4, -1);
    }

    private static void resting() {
        Edges.says("coming and tickled the heir has ESTATE by 10, rounded down, the nurse 1; coming else 0 less 2, the nurse 2; staying "
            + "and tickled 0 less LOST by 10, rounded down, the nurse 0; else 1, the nurse GRIP less 5:");
        // Staying and tickled rests with ESTATE and LOST both below 10 and a GRIP of 5 at most; staying else from 5 on.
        int[][] cases = {{0, 0, 12}, {9, 0, 12}, {10, 0, 8}, {0, 9, 12}, {0, 10, 8}, {9, 9, 12}, {10, 9, 8}, {9, 10, 8}, {99, 99, 8}};
        for (int[] c : cases) {
            for (int grip = 0; grip <= 9; grip++) {
                GripEstates x = Check.of("person age 0 grip " + grip + ";person age 0 grip 5;person age 0 grip 5;heir 0 1;"
                    + "thing worth " + c[0] + " size 1 of 0 held 0;thing worth " + c[1] + " size 1 of 0");
                int want = grip == 5 ? c[2] : grip < 5 ? c[2] & 4 : 8;
                Check.due("estate " + c[0] + ", lost " + c[1] + ", grip " + grip, want, x.rests(0));
                x.tie(0, true);
                Check.due("wool does not count", want, x.rests(0));
            }
        }
        GripEstates dead = of(3, "heir 0 1;thing worth 50 size 1 of 0 held 0;thing worth 50 size 1 of 0");
        Check.due("living", 8, dead.rests(0));
        Edges.die(dead, "person < 1", 1);
        Check.due("dead", 12, dead.rests(0));
    }

    private static void oddsOfN() {
        Edges.says("ODDS of N (0 to 4): that nobody of the LIVING dies in N NIGHTS, each by FAILS as it is now, in 10000, rounded down "
            + "at each one of each NIGHT.");
        GripEstates x = of(2, "death 1");
        int[] odds = {10000, 9801, 9604, 9411, 9222};
        for (int n = 0; n <= 4; n++) {
            Check.due("two of 1, nights " + n, odds[n], x.odds(n));
        }
        Check.refused("-1", Check.ARGUMENT, x, () -> x.odds(-1));
        Check.refused("5", Check.ARGUMENT, x, () -> x.odds(5));
        Edges.tell(x, "death 99");
        Check.due("99 each", 1, x.odds(1));
        Check.due("99 each, twice", 0, x.odds(2));
        Edges.tell(x, "death 100");
        Check.due("surely", 0, x.odds(1));
        Check.due("no night", 10000, x.odds(0));
        x.nights(1);
        Check.due("nobody lives", 10000, x.odds(4));
        // By FAILS as it is now: in the ninth night it would be 5 years old.
        GripEstates y = Check.of("person age 4 grip 0;night 9");
        Check.due("as it is now", 10000, y.odds(4));
    }

    private static void foremost() {
        Edges.says("OLDEST, STRONGEST (by GRIPS), RICHEST (by WORTH of what it OWNS): of LIVING ones (of several the least; none, each).");
        GripEstates nobody = new GripEstates();
        GripEstates alike = of(3, "thing worth 5 size 1 of 1;thing worth 5 size 1 of 2");
        GripEstates last = of(6, "person age 1 grip 5 tied;thing worth 1 size 1 of 6 cloth 0");
        Check.due("of like owners the first", 1, alike.most(2));
        for (int what = 0; what < 3; what++) {
            Check.due("nobody", -1, nobody.most(what));
            Check.due("of several the least", what == 2 ? 1 : 0, alike.most(what));
            Check.due("the last of seven", 6, last.most(what));
        }
        Edges.die(last, "person > 5", 1);
        Edges.die(last, "person < 1", 1);
        for (int what = 0; what < 3; what++) {
            Check.due("of living ones", 1, last.most(what));
        }
        Edges.die(last, "person < 9", 5);
        for (int what = 0; what < 3; what++) {
            Check.due("nobody lives", -1, last.most(what));
        }
        GripEstates none = Check.of("person age 0 grip 0");
        for (int what = 0; what < 3; what++) {
            Check.due("of nothing still one", 0, none.most(what));
        }
    }

    private static void setsOfAll() {
        Edges.says("LIVING ones, as bits. OPEN: LIVING ones who hold nothing, as bits. CROWN: THINGS that are its, as bits. WEALTH of the "
            + "CROWN: WORTH of these together.");
        GripEstates x = Edges.people(7);
        Check.due("all live", 127, x.living());
        Check.due("all are open", 127, x.idle());
        Check.due("the crown has none", 0, x.crown());
        Check.due("the crown has nothing", 0, x.wealth());
        Edges.tell(x, "thing worth 99 size 5 of 0 held 0;thing worth 99 size 5 of 0 held 6;thing worth 99 size 5 of 0 cloth 1");
        Check.due("without the first and the last", 62, x.idle());
        Edges.die(x, "person < 6", 6);
        Check.due("the last lives", 64, x.living());
        Check.due("its hand was opened", 64, x.idle());
        Check.due("the crown has all", 7, x.crown());
        GripEstates all = Check.of("crown worth 99 size 1" + ";crown worth 99 size 1".repeat(9));
        Check.due("ten", 1023, all.crown());
        Check.due("worth", 990, all.wealth());
        Check.due("nobody", 0, all.living() + all.idle());
    }

    private static void twins() {
        Edges.says("TWINS: pairs of THINGS of like WORTH and SIZE.");
        Check.due("none", 0, new GripEstates().twins());
        Check.due("one", 0, Check.of("crown worth 1 size 1").twins());
        Check.due("ten alike", 45, Check.of("crown worth 1 size 1" + ";crown worth 1 size 1".repeat(9)).twins());
        Check.due("of one alike alone", 0, Check.of("crown worth 1 size 1;crown worth 2 size 1;crown worth 1 size 2").twins());
        Check.due("the first and the last", 1, Check.of("crown worth 1 size 1" + ";crown worth 2 size 1;crown worth 3 size 1;"
            + "crown worth 1 size 1").twins());
    }

    private static void shares() {
        Edges.says("SHARE of a person of WORTH of all THINGS, in hundredths, rounded down (0 without).");
        Check.due("without things", 0, Edges.people(1).person(0, 17));
        Edges.person(of(2, "thing worth 0 size 1 of 0"), 17, 0, 0);
        Edges.person(of(3, "thing worth 1 size 1 of 0;thing worth 2 size 1 of 1"), 17, 33, 66, 0);
        Edges.person(of(2, "thing worth 99 size 1 of 0" + ";thing worth 99 size 1 of 0".repeat(9)), 17, 100, 0);
        Edges.person(of(2, "thing worth 1 size 1 of 0;crown worth 99 size 1;crown worth 1 size 1"), 17, 0, 0);
        Edges.person(of(2, "thing worth 1 size 1 of 0;crown worth 99 size 1"), 17, 1, 0);
    }

    private static void trials() {
        Edges.says("TRIAL of N NIGHTS (0 to 60) from now (draws, too; nothing stays): LIVING ones then, as bits; WEALTH of the CROWN then.");
        GripEstates x = of(3, "heir 0 1;thing worth 7 size 5 of 0 held 0;thing worth 5 size 1 of 1;thing worth 3 size 6 of 1 held 2;"
            + "crown worth 1 size 1;death 2;night 30");
        x.tie(1, true);
        x.seed(-77);
        String before = Check.seen(x);
        Check.refused("-1", Check.ARGUMENT, x, () -> x.trial(-1, false));
        Check.refused("61", Check.ARGUMENT, x, () -> x.trial(61, true));
        Check.due("0 nights", 7, x.trial(0, false));
        Check.due("0 nights", 1, x.trial(0, true));
        int living = x.trial(60, false);
        int wealth = x.trial(60, true);
        Check.due("nothing stays", before, Check.seen(x));
        x.nights(60);
        Check.due("as 60 nights", x.living(), living);
        Check.due("as 60 nights", x.wealth(), wealth);
        Check.due("by these somebody dies", true, living != 7);
        Check.due("of nobody", 0, new GripEstates().trial(60, false) + new GripEstates().trial(60, true));
    }

    /** Seven people, of whom some have a thing of worth 9; by one seed alone of 0 to 7 they die, or do not. */
    private static GripEstates spanned(int death, int... owners) {
        StringBuilder more = new StringBuilder("death " + death);
        for (int p : owners) {
            more.append(";thing worth 9 size 1 of ").append(p);
        }
        return of(7, more.toString());
    }

    private static void spans() {
        Edges.says("SPAN: the least and the greatest WEALTH of the CROWN so from SEED 1, 2, .. 6.");
        // The draws of a night modulo 100 from the seeds 0 to 7, of the people 0 to 6:
        // 0: 0 68 88 17 98 27 45, 1: 38 58 13 15 51 27 10, 2: 8 17 39 14 37 95 76, 3: 47 7 65 12 22 96 73,
        // 4: 17 66 91 11 7 96 38, 5: 55 57 16 77 93 64 4, 6: 26 15 42 76 78 65 69, 7: 64 6 68 74 31 65 34.
        Check.due("by 1 alone 2 dies", 9, spanned(14, 2).span(1, true));
        Check.due("by 2 alone 6 lives", 0, spanned(76, 6).span(1, false));
        Check.due("by 3 alone 1 dies", 9, spanned(8, 1).span(1, true));
        Check.due("by 4 alone 4 dies", 9, spanned(8, 4).span(1, true));
        Check.due("by 5 alone 6 dies", 9, spanned(5, 6).span(1, true));
        Check.due("by 6 alone 3 and 6 live", 0, spanned(69, 3, 6).span(1, false));
        Check.due("by 0 alone 0 dies", 0, spanned(1, 0).span(1, true));
        Check.due("by 7 alone 1 dies", 0, spanned(7, 1).span(1, true));
        Check.due("by 7 alone 0 lives", 9, spanned(64, 0).span(1, false));
        GripEstates x = spanned(14, 2);
        x.seed(0);
        String before = Check.seen(x);
        Check.due("from whatever seed there is", 9, x.span(1, true));
        Check.due("the least", 0, x.span(1, false));
        Check.due("in no night", 0, x.span(0, true));
        Check.due("nothing stays", before, Check.seen(x));
        Check.refused("-1", Check.ARGUMENT, x, () -> x.span(-1, true));
        Check.refused("61", Check.ARGUMENT, x, () -> x.span(61, false));
        Check.due("60 nights", 9, x.span(60, true));
        Check.due("of nobody", 0, new GripEstates().span(60, false) + new GripEstates().span(60, true));
    }

    private static void led() {
        Edges.says("LED: how many rows of THE LOG are of a person; the NIGHT of the latest (none).");
        GripEstates x = of(3, "thing worth 1 size 12 of 0 cloth 0;thing worth 1 size 12 of 0 cloth 1");
        Check.due("none", 0, x.led(0, false));
        Check.due("none", -1, x.led(0, true));
        x.nights(1);
        Check.due("one", 1, x.led(0, false));
        Check.due("night 0", 0, x.led(0, true));
        x.clear(0);
        x.nights(45);
        Check.due("46 of another", 46, x.led(1, false));
        Check.due("its night", 45, x.led(1, true));
        Check.due("one still", 1, x.led(0, false));
        x.lay(0, 2);
        x.nights(3);
        Check.due("53 rows", 53, x.count(10));
        Edges.tell(x, "night 0");
        x.seed(Edges.calmSeed(20));
        Check.due("nobody dies", 0, x.nights(4));
        Check.due("of rows that are gone none counts", 0, x.led(0, false));
        Check.due("nor its night", -1, x.led(0, true));
        Check.due("all rows", 60, x.led(1, false) + x.led(2, false));
        Check.due("the latest, not the greatest, night", 3, x.led(1, true));
    }
}
