/** The document's sentences on successors, nights, acts and the log that name an edge: each has a test of its own, in its order. */
public final class EdgesOfNightsTest {
    public static void main(String[] args) {
        heirsPassedOver();
        linesThatEnd();
        linesThatGoRound();
        tooFewOthers();
        aboveItsGrips();
        handsThatFeel();
        oneOfTheCloth();
        itsGripsAtMost();
        olderInTheNinth();
        belowItsFails();
        byAllAsItIsThen();
        itselfIsNoWitness();
        ofAnotherOwner();
        allElseIsTheCrowns();
        besidesOnTheCloth();
        livingNoMore();
        oneNightMore();
        seedsGoRound();
        inSoManyNights();
        nightsAheadAtTheEnd();
        laying();
        clearing();
        awake();
        opened();
        swapped();
        told();
        ofDeadOnes();
        born();
        given();
        sixtyRows();
        whatTheDeadHeld();
        orderOfRows();
        Check.end();
    }

    private static void heirsPassedOver() {
        Edges.says("SUCCESSOR of a person (LIVING or dead): the first LIVING one of its HEIR, the HEIR of that one, and on "
            + "(itself is passed over)");
        GripEstates x = Edges.people(7);
        Edges.tell(x, "witnesses 0");
        for (int p = 0; p < 6; p++) {
            x.heir(p, p + 1);
        }
        Edges.person(x, 10, 1, 2, 3, 4, 5, 6, -1);
        Edges.die(x, "person > 0 and person < 6", 5);
        Edges.person(x, 10, 6, 6, 6, 6, 6, 6, -1);
        x.heir(6, 0);
        Edges.person(x, 10, 6, 6, 6, 6, 6, 6, 0);
        Edges.die(x, "person > 5", 1);
        Edges.person(x, 10, -1, 0, 0, 0, 0, 0, 0);
        x.heir(6, -1);
        x.heir(5, 0);
        Edges.person(x, 10, -1, 0, 0, 0, 0, 0, -1);
    }

    private static void linesThatEnd() {
        Edges.says("none, if it ends,");
        GripEstates x = Edges.people(4);
        x.heir(0, 1);
        Edges.die(x, "person > 0 and person < 2", 1);
        Edges.person(x, 10, -1, -1, -1, -1);
        x.heir(1, 3);
        Edges.person(x, 10, 3, 3, -1, -1);
    }

    private static void linesThatGoRound() {
        Edges.says("or goes round without a LIVING one,");
        GripEstates x = Edges.people(7);
        Edges.tell(x, "witnesses 0;heir 0 1;heir 1 2;heir 2 3;heir 3 1;heir 4 5;heir 5 4;heir 6 0");
        Edges.die(x, "person > 0 and person < 4 or person > 3 and person < 5", 4);
        // 0 comes into a round of dead ones; 5 to itself by a dead one; 4, dead, to 5; 6 to 0.
        Edges.person(x, 10, -1, -1, -1, -1, 5, -1, 0);
    }

    private static void tooFewOthers() {
        Edges.says("or if fewer others than WITNESSES are LIVING.");
        GripEstates x = Edges.people(4);
        Edges.tell(x, "heir 0 1;heir 1 2;heir 2 3;heir 3 0;witnesses 3");
        Edges.person(x, 10, 1, 2, 3, 0);
        Edges.die(x, "person > 2", 1);
        // Two others live for each living one, three for the dead one.
        Edges.person(x, 10, -1, -1, -1, 0);
        Edges.tell(x, "witnesses 2");
        Edges.person(x, 10, 1, 2, 0, 0);
    }

    private static void aboveItsGrips() {
        Edges.says("if it holds a THING of a SIZE above its GRIPS, that lies on its CLOTH from then on;");
        GripEstates x = Edges.people(2);
        Edges.tell(x, "thing worth 1 size 5 of 0 held 0;thing worth 1 size 6 of 0 held 1");
        x.nights(1);
        Check.due("of its grips it is held", 0, x.person(0, 5));
        Check.due("above it lies there", 2, x.person(1, 9));
        Check.due("it is whose it was", 0, x.thing(1, 2));
        Edges.row(x, 1, 0, 1, 0, 1, 0);
        Edges.row(x, 0, 0, 1, 2, 1, 0);
        Check.due("rows", 2, x.count(10));
        x.tie(1, true);
        x.nights(1);
        Check.due("by wool it is held again", 1, x.person(1, 5));
        Check.lawIs(x, "slip 1 if person < 1;slip 2 if person > 0");
        x.nights(1);
        Edges.person(x, 5, -1, -1);
    }

    private static void handsThatFeel() {
        Edges.says("that holds nothing, with THINGS on its CLOTH:");
        GripEstates x = Edges.people(3);
        Edges.tell(x, "thing worth 1 size 1 of 0 held 0;thing worth 1 size 1 of 0 cloth 0;thing worth 1 size 12 of 0 cloth 2");
        x.nights(1);
        Check.due("one draw by the cloth, three by who lives", Edges.seedAfter(1, 4), Edges.seedNow(x));
        Check.due("a row of 2 alone", 1, x.count(10));
        Edges.row(x, 0, 0, 2, 2, 2, 0);
        Edges.die(x, "person > 1", 1);
        x.seed(1);
        x.nights(1);
        Check.due("the dead draw nothing", Edges.seedAfter(1, 2), Edges.seedNow(x));
    }

    private static void oneOfTheCloth() {
        Edges.says("it FEELS the one of the number DRAW modulo how many (of these, by numbers, from 0 on)");
        GripEstates x = Edges.people(2);
        Edges.tell(x, "thing worth 1 size 1 of 0;thing worth 1 size 1 of 1 cloth 0;thing worth 1 size 1 of 0 cloth 1;"
            + "thing worth 1 size 1 of 0 cloth 0;thing worth 1 size 1 of 0 cloth 0");
        int[] three = {1, 3, 4};
        for (int rest = 0; rest < 3; rest++) {
            x.seed(Edges.seedOf(3, rest));
            x.nights(1);
            Check.due("of three the one of number " + rest, three[rest], x.person(0, 5));
            Check.due("of one that one", 2, x.person(1, 5));
            x.undo();
        }
        GripEstates y = Edges.people(1);
        Edges.tell(y, "thing worth 1 size 1 of 0 cloth 0" + ";thing worth 1 size 1 of 0 cloth 0".repeat(9));
        for (int rest = 0; rest < 10; rest++) {
            y.seed(Edges.seedOf(10, rest));
            y.nights(1);
            Check.due("of ten the one of number " + rest, rest, y.person(0, 5));
            y.undo();
        }
    }

    private static void itsGripsAtMost() {
        Edges.says("if the SIZE of that is its GRIPS at most, it holds it (it is not on the CLOTH any more);");
        GripEstates x = Edges.people(2);
        Edges.tell(x, "thing worth 1 size 5 of 0 cloth 0;thing worth 1 size 6 of 0 cloth 1");
        x.nights(1);
        Edges.person(x, 5, 0, -1);
        Edges.person(x, 9, 0, 2);
        Edges.row(x, 1, 0, 0, 1, 0, 0);
        Edges.row(x, 0, 0, 1, 2, 1, 0);
        // What it held by a law of open hands it lets go of in the next night, and holds again.
        GripEstates y = Edges.people(1);
        Edges.tell(y, "thing worth 1 size 6 of 0 cloth 0");
        Check.lawIs(y, "grip 1 if open");
        y.nights(2);
        Check.due("rows", 3, y.count(10));
        Edges.row(y, 2, 0, 0, 1, 0, 0);
        Edges.row(y, 1, 1, 0, 0, 0, 0);
        Edges.row(y, 0, 1, 0, 1, 0, 0);
    }

    private static void olderInTheNinth() {
        Edges.says("AGE is 1 more, if NIGHT (as it is then) is 9 modulo 10 (99 at most);");
        GripEstates x = Check.of("person age 0 grip 5;person age 98 grip 5;person age 99 grip 5");
        int[] nights = {0, 8, 9, 10, 18, 19, 90, 99, 100, 999};
        int[] older = {0, 0, 1, 1, 1, 2, 2, 3, 3, 4};
        for (int i = 0; i < nights.length; i++) {
            Edges.tell(x, "night " + nights[i]);
            x.seed(Edges.calmSeed(3));
            Check.due("nobody dies", 0, x.nights(1));
            Edges.person(x, 0, older[i], Math.min(99, 98 + older[i]), 99);
        }
        GripEstates y = Edges.people(2);
        Edges.die(y, "person < 1", 1);
        y.nights(20);
        Edges.person(y, 0, 0, 2);
    }

    private static void belowItsFails() {
        Edges.says("if DRAW modulo 100 is below its FAILS (by all as it is then; the DRAW always), it DIES:");
        int[][] cases = {{0, 0, 0}, {0, 99, 0}, {1, 0, 1}, {1, 1, 0}, {50, 49, 1}, {50, 50, 0}, {99, 98, 1}, {99, 99, 0},
            {100, 99, 1}, {100, 0, 1}};
        for (int[] c : cases) {
            GripEstates x = Edges.people(1);
            Edges.tell(x, "death " + c[0]);
            int seed = Edges.seedOf(100, c[1]);
            x.seed(seed);
            Check.due("fails " + c[0] + ", draw " + c[1], c[2], x.nights(1));
            Check.due("one draw", Edges.seedAfter(seed, 1), Edges.seedNow(x));
        }
    }

    private static void byAllAsItIsThen() {
        Edges.says("(by all as it is then; the DRAW always)");
        String law = "fail 40 if person A or alone;fail 40 if person A or alone;fail 40 if person A or alone";
        GripEstates x = Check.of(Edges.peopleText(3) + ";witnesses 0;heir 0 2;heir 1 0;heir 2 1");
        Check.lawIs(x, law.replace("A", "> 1"));
        Check.due("2 dies when 0 and 1 are past", 1, x.nights(1));
        Edges.person(x, 4, 1, 1, 0);
        GripEstates y = Check.of(Edges.peopleText(3) + ";witnesses 2;heir 0 2;heir 1 0;heir 2 1");
        Check.lawIs(y, law.replace("A", "< 1"));
        Check.due("with 0 dead, 1 and 2 have too few witnesses", 3, y.nights(1));
        GripEstates z = Check.of(Edges.peopleText(3) + ";witnesses 0;heir 0 2;heir 1 0;thing worth 1 size 1 of 0;"
            + "thing worth 1 size 1 of 2;thing worth 1 size 1 of 0 held 0");
        Check.lawIs(z, "fail 40 if person < 1 or owns > 1;fail 40 if person < 1 or owns > 1;fail 40 if person < 1 or owns > 1");
        Check.due("2 owns two by then", 2, z.nights(1));
        Edges.person(z, 4, 0, 1, 0);
    }

    private static void itselfIsNoWitness() {
        Edges.says("is OWNED by its SUCCESSOR then (it itself counts as no other one; the CROWN, if there is none),");
        String text = ";heir 0 1;thing worth 1 size 1 of 0 held 0;witnesses ";
        GripEstates x = Check.of(Edges.peopleText(2) + text + 1);
        Edges.die(x, "person < 1", 1);
        Check.due("one other is enough for 1", 1, x.thing(0, 2));
        GripEstates y = Check.of(Edges.peopleText(2) + text + 2);
        Edges.die(y, "person < 1", 1);
        Check.due("one other is too few for 2", -1, y.thing(0, 2));
        GripEstates z = Check.of(Edges.peopleText(3) + text + 2);
        Edges.die(z, "person < 1", 1);
        Check.due("two others are enough for 2", 1, z.thing(0, 2));
        GripEstates w = Check.of("person age 0 grip 5;thing worth 1 size 1 of 0 held 0;witnesses 0");
        Edges.die(w, "person < 1", 1);
        Check.due("without an heir", -1, w.thing(0, 2));
    }

    private static void ofAnotherOwner() {
        Edges.says("and in any case put BY (one of another OWNER is still that one's);");
        GripEstates x = Check.of(Edges.peopleText(3) + ";heir 0 2;thing worth 1 size 1 of 1 held 0");
        Edges.die(x, "person < 1", 1);
        Edges.thing(x, 2, 1);
        Edges.thing(x, 3, 0);
        Edges.thing(x, 4, -1);
        GripEstates y = Check.of(Edges.peopleText(3) + ";heir 0 2;thing worth 1 size 1 of 0 held 0");
        Edges.die(y, "person < 1", 1);
        Edges.thing(y, 2, 2);
        Edges.thing(y, 3, 0);
        Edges.thing(y, 4, -1);
        Check.due("no hand holds it", 0, y.count(8));
    }

    private static void allElseIsTheCrowns() {
        Edges.says("each other THING that it OWNS is the CROWN's and put BY (also out of another HAND, or from another CLOTH);");
        GripEstates x = Check.of(Edges.peopleText(3) + ";heir 0 1;thing worth 1 size 1 of 0;thing worth 1 size 1 of 0 held 1;"
            + "thing worth 1 size 12 of 0 cloth 0;thing worth 1 size 12 of 0 cloth 2;thing worth 1 size 1 of 0 held 0;"
            + "thing worth 1 size 1 of 1");
        Edges.die(x, "person < 1", 1);
        Edges.thing(x, 2, -1, -1, -1, -1, 1, 1);
        Edges.thing(x, 3, 0, 0, 0, 0, 0, 0);
        Edges.thing(x, 4, -1, -1, -1, -1, -1, -1);
        Edges.person(x, 5, -1, -1, -1);
    }

    private static void besidesOnTheCloth() {
        Edges.says("what lies on its CLOTH besides is put BY;");
        GripEstates x = Check.of(Edges.peopleText(3) + ";heir 0 1;thing worth 1 size 12 of 1 cloth 0;"
            + "thing worth 1 size 12 of 2 cloth 0;thing worth 1 size 12 of 2 cloth 1");
        Edges.die(x, "person < 1", 1);
        Edges.thing(x, 2, 1, 2, 2);
        Edges.thing(x, 3, 0, 0, 2);
        Edges.thing(x, 4, -1, -1, 1);
    }

    private static void livingNoMore() {
        Edges.says("it is LIVING no more.");
        GripEstates x = Edges.people(2);
        Edges.die(x, "person < 1", 1);
        Check.due("who lives", 2, x.living());
        Edges.tell(x, "death 100");
        Check.due("nobody dies twice", 1, x.nights(60));
        Check.due("who lives", 0, x.living());
        Check.due("two died", 2, x.count(10));
    }

    private static void oneNightMore() {
        Edges.says("NIGHT is 1 more (9999 at most).");
        GripEstates x = atTheLastNight();
        x.born(5);
        for (int age = 1; age <= 4; age++) {
            x.nights(1);
            Check.due("night", 9999, x.count(6));
            Check.due("9999 is 9 modulo 10 each time", age, x.person(0, 0));
        }
        Edges.tell(x, "thing worth 1 size 12 of 0 cloth 0");
        x.seed(Edges.calmSeed(2));
        x.nights(1);
        Edges.row(x, 0, 9999, 0, 2, 0, 4);
    }

    private static GripEstates atTheLastNight() {
        GripEstates x = Check.of("night 999");
        for (int i = 0; i < 150; i++) {
            x.nights(60);
        }
        Check.due("the last night", 9999, x.count(6));
        return x;
    }

    private static void seedsGoRound() {
        Edges.says("DRAW: SEED is 1103515245 times SEED and 12345, as an int that goes round; bits 16 to 30 (SEED 1 at first).");
        GripEstates x = Edges.people(1);
        Check.due("at first", 1, Edges.seedNow(x));
        x.nights(1);
        Check.due("1103515245 and 12345", 1103527590, Edges.seedNow(x));
        x.nights(1);
        Check.due("it goes round", -1770082073, Edges.seedNow(x));
        int[] seeds = {0, 1, 2, -1, -2, Edges.MIN, Edges.MIN + 1, Edges.MAX, Edges.MAX - 1, 1103527590, -1770082073, 65536,
            32768, 32767, 1 << 30};
        boolean above = false;
        for (int seed : seeds) {
            int next = Edges.nextSeed(seed);
            above |= next < 0;
            int rest = Edges.draw(next) % 100;
            Check.due("dies below " + rest, 0, diesBy(seed, rest));
            Check.due("dies below " + (rest + 1), 1, diesBy(seed, rest + 1));
            x.seed(seed);
            x.nights(1);
            Check.due("seed behind " + seed, next, x.seed(5));
        }
        Check.due("bit 31 was set, and does not count", true, above);
    }

    private static int diesBy(int seed, int death) {
        GripEstates x = Check.of("person age 0 grip 0;death " + death);
        x.seed(seed);
        return x.nights(1);
    }

    private static void inSoManyNights() {
        Edges.says("IN N NIGHTS (0 to 60): as so many NIGHTS of (a) alone (NIGHT is more, too; no DRAWS).");
        GripEstates x = Check.of("person age 99 grip 5;thing worth 1 size 5 of 0 held 0;thing worth 1 size 1 of 0 cloth 0;"
            + "death 100");
        Check.lawIs(x, "slip 1 if night > 59 and night < 61");
        String before = Check.seen(x);
        Check.due("in nights 0 to 59", 0, x.ahead(0, 60));
        Edges.tell(x, "night 1");
        Check.due("in nights 1 to 59", 0, x.ahead(0, 59));
        Check.due("in nights 1 to 60", -1, x.ahead(0, 60));
        Check.due("no hand feels then", -1, x.ahead(0, 60));
        Check.refused("61", Check.ARGUMENT, x, () -> x.ahead(0, 61));
        Check.refused("-1", Check.ARGUMENT, x, () -> x.ahead(0, -1));
        Check.due("no draws", 1, Edges.seedNow(x));
        Check.due("all as before but for the night and the text", before.length(), Check.seen(x).length());
        Check.lawIs(x, "slip 1");
        Check.due("in none it is held still", 0, x.ahead(0, 0));
        Check.due("in one it is not", -1, x.ahead(0, 1));
    }

    private static void nightsAheadAtTheEnd() {
        Edges.says("(NIGHT is more, too; no DRAWS).");
        GripEstates x = atTheLastNight();
        x.born(5);
        Edges.tell(x, "thing worth 1 size 5 of 0 held 0");
        Check.lawIs(x, "slip 1 if night < 99");
        Check.due("NIGHT is 9999 at most ahead, too", 0, x.ahead(0, 60));
        Check.lawIs(x, "slip 1 if night > 98");
        Check.due("and 99 modulo 100", -1, x.ahead(0, 1));
    }

    private static void laying() {
        Edges.says("a THING that is put BY is laid on the CLOTH of a LIVING person (by its OWNER, whoever that is; not of the CROWN);");
        GripEstates x = Check.of(Edges.peopleText(3) + ";thing worth 1 size 12 of 0;thing worth 1 size 1 of 0 held 0;"
            + "thing worth 1 size 1 of 0 cloth 0;crown worth 1 size 1");
        Edges.die(x, "person > 1", 1);
        Check.due("0 holds what it held", 1, x.person(0, 5));
        Check.refused("of a hand", Check.STATE, x, () -> x.lay(1, 1));
        Check.refused("of a cloth", Check.STATE, x, () -> x.lay(2, 1));
        Check.refused("on the cloth where it lies", Check.STATE, x, () -> x.lay(2, 0));
        Check.refused("of the crown", Check.STATE, x, () -> x.lay(3, 1));
        Check.refused("of a dead one", Check.STATE, x, () -> x.lay(0, 2));
        Check.due("on another's", 1, x.lay(0, 1));
        Check.due("whose it is", 0, x.thing(0, 2));
        GripEstates full = Check.of("person age 0 grip 5" + ";thing worth 1 size 1 of 0".repeat(10));
        for (int t = 0; t < 10; t++) {
            Check.due("how many lie there", t + 1, full.lay(t, 0));
        }
    }

    private static void clearing() {
        Edges.says("what lies on a CLOTH is cleared (put BY);");
        GripEstates x = Check.of(Edges.peopleText(2) + ";thing worth 1 size 1 of 0 cloth 1;thing worth 1 size 1 of 0 held 0;"
            + "thing worth 1 size 1 of 0;crown worth 1 size 1");
        Check.refused("what is held", Check.STATE, x, () -> x.clear(1));
        Check.refused("what is put by", Check.STATE, x, () -> x.clear(2));
        Check.refused("what is the crown's", Check.STATE, x, () -> x.clear(3));
        Check.due("whose cloth", 1, x.clear(0));
        Edges.thing(x, 2, 0);
        Edges.thing(x, 3, 0);
        Edges.thing(x, 4, -1);
        Check.refused("a second time", Check.STATE, x, () -> x.clear(0));
    }

    private static void awake() {
        Edges.says("a THING put BY is put into the HAND of its LIVING OWNER, awake (it holds nothing, SIZE is its GRIPS at most);");
        GripEstates x = Check.of(Edges.peopleText(2) + ";thing worth 1 size 5 of 0;thing worth 1 size 6 of 0;"
            + "thing worth 1 size 5 of 1 cloth 0;crown worth 1 size 1");
        Check.refused("too large", Check.STATE, x, () -> x.wake(1));
        Check.refused("on a cloth", Check.STATE, x, () -> x.wake(2));
        Check.refused("the crown's", Check.STATE, x, () -> x.wake(3));
        Check.due("of just its grips", 0, x.wake(0));
        Check.refused("held already", Check.STATE, x, () -> x.wake(0));
        Check.lawIs(x, "grip 1");
        Check.refused("a full hand", Check.STATE, x, () -> x.wake(1));
        x.open(0);
        Check.due("by law not too large", 0, x.wake(1));
        // By a law of open hands what fits the open hand is put into it, though it will slip.
        GripEstates y = Check.of("person age 0 grip 5;thing worth 1 size 6 of 0");
        Check.lawIs(y, "grip 1 if open");
        Check.due("into the open hand", 0, y.wake(0));
        Check.due("its grips then", 5, y.person(0, 6));
    }

    private static void opened() {
        Edges.says("a HAND is opened (what it holds is put BY);");
        GripEstates x = Check.of(Edges.peopleText(2) + ";thing worth 1 size 1 of 1 held 0");
        Check.refused("an empty one", Check.STATE, x, () -> x.open(1));
        Check.due("what it held", 0, x.open(0));
        Edges.thing(x, 2, 1);
        Edges.thing(x, 3, 0);
        Edges.thing(x, 4, -1);
        Check.refused("a second time", Check.STATE, x, () -> x.open(0));
        Edges.die(x, "person < 1", 1);
        Check.refused("a dead one's", Check.STATE, x, () -> x.open(0));
    }

    private static void swapped() {
        Edges.says("two LIVING ones swap what they hold (each is the OWNER of what it holds then, whoever was);");
        GripEstates x = Check.of(Edges.peopleText(4) + ";thing worth 1 size 1 of 2 held 0;thing worth 1 size 12 of 2 held 1");
        Check.due("what the first one holds then", 1, x.swap(0, 1));
        Edges.thing(x, 2, 1, 0);
        Edges.thing(x, 4, 1, 0);
        Check.due("for nothing", -1, x.swap(1, 2));
        Edges.thing(x, 2, 2, 0);
        Check.due("of nothing", 1, x.swap(1, 0));
        Edges.thing(x, 2, 2, 1);
        Check.due("nothing for nothing", -1, x.swap(0, 3));
        Edges.person(x, 5, -1, 1, 0, -1);
        Edges.die(x, "person > 2", 1);
        Check.refused("with a dead one", Check.STATE, x, () -> x.swap(0, 3));
        Check.refused("of a dead one", Check.STATE, x, () -> x.swap(3, 0));
        Check.refused("of one", Check.ARGUMENT, x, () -> x.swap(0, 0));
        Check.refused("of one, dead", Check.ARGUMENT, x, () -> x.swap(3, 3));
    }

    private static void told() {
        Edges.says("an HEIR is told, or none;");
        GripEstates x = Edges.people(7);
        Check.due("none was", -1, x.heir(0, 6));
        Check.due("one was", 6, x.heir(0, -1));
        Check.due("none was, none is", -1, x.heir(0, -1));
        Check.due("all are acts", 3, x.count(11));
    }

    private static void ofDeadOnes() {
        Edges.says("wool is tied, or loosed (both of dead ones, too, and an HEIR may be dead);");
        GripEstates x = Edges.people(3);
        Edges.die(x, "person > 1", 1);
        Check.due("a dead heir", -1, x.heir(0, 2));
        Check.due("a dead one's heir", -1, x.heir(2, 1));
        Check.due("a dead one's, none", 1, x.heir(2, -1));
        Check.due("a dead one tied", true, x.tie(2, true));
        Check.due("its grips", 7, x.person(2, 6));
        Check.due("a dead one loosed", true, x.tie(2, false));
        Check.due("its grips", 5, x.person(2, 6));
    }

    private static void born() {
        Edges.says("a child is born (AGE 0, no HEIR, not TIED);");
        GripEstates x = Check.of("person age 50 grip 5 tied;person age 50 grip 5 heir 0 tied");
        Check.due("its number", 2, x.born(3));
        x.tie(2, true);
        x.heir(2, 0);
        x.nights(1);
        for (int i = 0; i < 4; i++) {
            x.undo();
        }
        Check.due("another in its place", 2, x.born(4));
        int[] child = {0, 4, -1, 0, 1, -1, 4};
        for (int what = 0; what < child.length; what++) {
            Check.due("what " + what, child[what], x.person(2, what));
        }
    }

    private static void given() {
        Edges.says("a THING put BY is given to another LIVING person (who is its OWNER then).");
        GripEstates x = Check.of(Edges.peopleText(3) + ";thing worth 1 size 1 of 0;thing worth 1 size 1 of 0 held 0;"
            + "thing worth 1 size 1 of 0 cloth 0;crown worth 1 size 1");
        Edges.die(x, "person > 1", 1);
        Check.refused("to its owner", Check.STATE, x, () -> x.give(0, 0));
        Check.refused("to a dead one", Check.STATE, x, () -> x.give(0, 2));
        Check.refused("what is held", Check.STATE, x, () -> x.give(1, 1));
        Check.refused("what is laid", Check.STATE, x, () -> x.give(2, 1));
        Check.refused("the crown's", Check.STATE, x, () -> x.give(3, 1));
        Check.due("whose it was", 0, x.give(0, 1));
        Edges.thing(x, 2, 1);
        Edges.thing(x, 3, 0);
    }

    private static void sixtyRows() {
        Edges.says("THE LOG: the latest 60 times");
        GripEstates x = Edges.people(2);
        Edges.tell(x, "thing worth 1 size 12 of 0 cloth 0;thing worth 1 size 12 of 0 cloth 1");
        Check.due("none", -2, x.log(0, 0));
        x.nights(29);
        Check.due("58 rows", 58, x.count(10));
        Check.due("no 59th", -2, x.log(58, 0));
        x.nights(1);
        Check.due("60 rows", 60, x.count(10));
        Edges.row(x, 59, 0, 0, 2, 0, 0);
        Edges.row(x, 0, 29, 1, 2, 1, 2);
        x.clear(1);
        x.nights(1);
        Check.due("60 rows still", 60, x.count(10));
        Edges.row(x, 59, 0, 1, 2, 1, 0);
        Edges.row(x, 0, 30, 0, 2, 0, 3);
        Edges.row(x, 1, 29, 1, 2, 1, 2);
        Check.due("no 61st", -2, x.log(60, 0));
        x.undo();
        Edges.row(x, 59, 0, 0, 2, 0, 0);
        Edges.row(x, 0, 29, 1, 2, 1, 2);
    }

    private static void whatTheDeadHeld() {
        Edges.says("the THING (of 3 that which it held; none)");
        GripEstates x = Check.of(Edges.peopleText(3) + ";heir 0 2;thing worth 1 size 1 of 2 held 1;thing worth 1 size 1 of 0;"
            + "thing worth 1 size 1 of 2 held 2;death 100");
        Check.due("all die", 3, x.nights(1));
        Edges.row(x, 2, 0, 0, 3, -1, 0);
        Edges.row(x, 1, 0, 1, 3, 0, 0);
        Edges.row(x, 0, 0, 2, 3, 2, 0);
    }

    private static void orderOfRows() {
        Edges.says("in the order in which it comes about.");
        GripEstates x = Check.of(Edges.peopleText(2) + ";thing worth 1 size 6 of 0 held 0;thing worth 1 size 7 of 0 held 1;"
            + "death 100;night 9");
        Check.lawIs(x, "grip 1 if open");
        Check.due("both die", 2, x.nights(1));
        Check.due("rows", 6, x.count(10));
        Edges.row(x, 5, 9, 0, 0, 0, 0);
        Edges.row(x, 4, 9, 1, 0, 1, 0);
        Edges.row(x, 3, 9, 0, 1, 0, 0);
        Edges.row(x, 2, 9, 1, 2, 1, 0);
        Edges.row(x, 1, 9, 0, 3, 0, 1);
        Edges.row(x, 0, 9, 1, 3, -1, 1);
    }
}
