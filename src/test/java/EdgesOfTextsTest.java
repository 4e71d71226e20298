/** The document's sentences on people, things and both texts that name an edge: each has a test of its own, in its order. */
public final class EdgesOfTextsTest {
    private static final String TWO = "person age 0 grip 5;person age 0 grip 5;";

    public static void main(String[] args) {
        callsOfAnObject();
        peopleAtMost();
        ages();
        gripNumbers();
        heirsAtFirst();
        tiedAtFirst();
        livingAtFirst();
        thingsAtMost();
        worths();
        sizes();
        oneInAHand();
        nightsAtMost();
        deaths();
        witnesses();
        textsAtMost();
        linesOfTheValley();
        livingByThen();
        heirTwice();
        heirsAhead();
        emptyHands();
        heldOrCloth();
        crownsThings();
        boundsOfSettings();
        digitsOfTheValley();
        inPlaceOfTheOneBefore();
        linesOfTheLaw();
        lessAndMore();
        digitsOfTheLaw();
        handsByGrip();
        ownsAndLaid();
        sizeOfNothing();
        nightModuloHundred();
        openHands();
        aloneOnes();
        twoMoreByWool();
        gripsAtLeast();
        failsAtMost();
        wordsEnd();
        blanks();
        textsWithoutLines();
        sixDeep();
        moreDigits();
        outOfBounds();
        noneThatCanBe();
        noSuchWord();
        theSeventhDeep();
        tooMany();
        moreMustCome();
        nothingStays();
        Check.end();
    }

    private static void callsOfAnObject() {
        Edges.says("An object is used for at most 512 calls after it has been made");
        GripEstates x = new GripEstates();
        x.feed(0x64656174, 0x68203739, 0x20202020, 0x20202020, 0x20202020);
        x.valley();
        for (int call = 3; call <= 510; call++) {
            Check.due("born, and undone, call " + call, call % 2, call % 2 == 1 ? x.born(3) + 1 : x.undo() ? 0 : 1);
        }
        Check.due("the 511th call", 79, x.count(4));
        Check.due("the 512th call", 0, x.count(11));
    }

    private static void peopleAtMost() {
        Edges.says("PEOPLE (at most 7, numbered from 0 on)");
        GripEstates x = Edges.people(7);
        Check.due("seven", 7, x.count(0));
        Check.due("the first", 1, x.person(0, 4));
        Check.due("the last", 1, x.person(6, 4));
        Check.refused("an eighth", Check.INDEX, x, () -> x.person(7, 4));
        Check.refused("one ahead of the first", Check.INDEX, x, () -> x.person(-1, 4));
        Edges.wrongValley(x, "@person age 0 grip 5");
        Check.refused("an eighth born", Check.STATE, x, () -> x.born(5));
        GripEstates y = Edges.people(6);
        Check.due("a seventh born", 6, y.born(5));
    }

    private static void ages() {
        Edges.says("AGE 0 to 99");
        Edges.person(Check.of("person age 0 grip 1;person age 99 grip 1"), 0, 0, 99);
        Edges.wrongValley(Edges.people(1), "person age @100 grip 1");
    }

    private static void gripNumbers() {
        Edges.says("GRIP 0 to 9");
        GripEstates x = Check.of("person age 1 grip 0;person age 1 grip 9");
        Edges.person(x, 1, 0, 9);
        Edges.wrongValley(x, "person age 1 grip @10");
        Check.refused("born of 10", Check.ARGUMENT, x, () -> x.born(10));
        Check.refused("born of -1", Check.ARGUMENT, x, () -> x.born(-1));
        Check.due("born of 0", 2, x.born(0));
        Check.due("born of 9", 3, x.born(9));
    }

    private static void heirsAtFirst() {
        Edges.says("HEIR: another one or none (at first)");
        GripEstates x = Edges.people(2);
        x.born(1);
        Edges.person(x, 2, -1, -1, -1);
        Check.due("another one", -1, x.heir(0, 2));
        Check.refused("not itself", Check.ARGUMENT, x, () -> x.heir(0, 0));
        Check.due("none", 2, x.heir(0, -1));
    }

    private static void tiedAtFirst() {
        Edges.says("TIED by wool or not (not at first)");
        GripEstates x = Edges.people(2);
        x.born(1);
        Edges.person(x, 3, 0, 0, 0);
    }

    private static void livingAtFirst() {
        Edges.says("LIVING (at first) or dead");
        GripEstates x = Edges.people(2);
        x.born(1);
        Edges.person(x, 4, 1, 1, 1);
        Edges.die(x, "person > 1", 1);
        Edges.person(x, 4, 1, 1, 0);
    }

    private static void thingsAtMost() {
        Edges.says("THINGS (at most 10, numbered from 0 on)");
        GripEstates x = Check.of("crown worth 1 size 1" + ";crown worth 2 size 1".repeat(8) + ";crown worth 9 size 1");
        Check.due("ten", 10, x.count(1));
        Check.due("the first", 1, x.thing(0, 0));
        Check.due("the last", 9, x.thing(9, 0));
        Check.refused("an eleventh", Check.INDEX, x, () -> x.thing(10, 0));
        Check.refused("one ahead of the first", Check.INDEX, x, () -> x.thing(-1, 0));
        Edges.wrongValley(x, "@crown worth 1 size 1");
        Edges.wrongValley(x, "person age 1 grip 1;@thing worth 1 size 1 of 0");
    }

    private static void worths() {
        Edges.says("WORTH 0 to 99");
        GripEstates x = Check.of(TWO + "thing worth 0 size 1 of 0;thing worth 99 size 1 of 0;crown worth 0 size 1;"
            + "crown worth 99 size 1");
        Edges.thing(x, 0, 0, 99, 0, 99);
        Edges.wrongValley(x, "thing worth @100 size 1 of 0");
        Edges.wrongValley(x, "crown worth @100 size 1");
    }

    private static void sizes() {
        Edges.says("SIZE 1 to 12");
        GripEstates x = Check.of(TWO + "thing worth 0 size 1 of 0;thing worth 0 size 12 of 0;crown worth 0 size 1;"
            + "crown worth 0 size 12");
        Edges.thing(x, 1, 1, 12, 1, 12);
        Edges.wrongValley(x, "thing worth 1 size @0 of 0");
        Edges.wrongValley(x, "thing worth 1 size @13 of 0");
        Edges.wrongValley(x, "crown worth 1 size @0");
        Edges.wrongValley(x, "crown worth 1 size @13");
    }

    private static void oneInAHand() {
        Edges.says("(each HAND, the left one, holds one at most)");
        GripEstates x = Check.of(TWO + "thing worth 1 size 1 of 0 held 0;thing worth 1 size 1 of 0;"
            + "thing worth 1 size 1 of 0 cloth 0");
        Edges.wrongValley(x, "thing worth 1 size 1 of 0 held @0");
        Check.refused("awake", Check.STATE, x, () -> x.wake(1));
        x.nights(1);
        Check.due("a full hand feels nothing", 0, x.count(10));
        Check.due("it holds what it held", 0, x.person(0, 5));
        Check.due("one in hands", 1, x.count(8));
    }

    private static void nightsAtMost() {
        Edges.says("NIGHT 0 to 9999 (0 at first)");
        GripEstates x = new GripEstates();
        Check.due("at first", 0, x.count(6));
        Edges.tell(x, "night 999");
        for (int i = 0; i < 149; i++) {
            x.nights(60);
        }
        x.nights(59);
        Check.due("one less", 9998, x.count(6));
        x.nights(1);
        Check.due("the last", 9999, x.count(6));
        x.nights(1);
        Check.due("no more", 9999, x.count(6));
    }

    private static void deaths() {
        Edges.says("DEATH 0 to 100 (0 at first)");
        GripEstates x = Edges.people(1);
        Check.due("at first", 0, x.count(4));
        Edges.tell(x, "death 100");
        Check.due("the most", 100, x.count(4));
        Edges.wrongValley(x, "death @101");
        Edges.tell(x, "death 0");
        Check.due("the least", 0, x.count(4));
    }

    private static void witnesses() {
        Edges.says("WITNESSES 0 to 6 (2 at first): how many others must live for an heir to inherit");
        GripEstates x = Edges.people(2);
        Check.due("at first", 2, x.count(5));
        x.heir(0, 1);
        Check.due("one other is too few", -1, x.person(0, 10));
        x.born(1);
        Check.due("two others are enough", 1, x.person(0, 10));
        Edges.tell(x, "witnesses 6;" + Edges.peopleText(3));
        Check.due("five others are too few", -1, x.person(0, 10));
        x.born(1);
        Check.due("six others are enough", 1, x.person(0, 10));
        Edges.wrongValley(x, "witnesses @7");
        GripEstates y = Check.of(TWO + "witnesses 0;heir 0 1");
        Check.due("none need live but the heir", 1, y.person(0, 10));
        Edges.die(y, "person > 0", 1);
        Check.due("no heir lives", -1, y.person(0, 10));
    }

    private static void textsAtMost() {
        Edges.says("THE VALLEY is told in texts (at most 12, one behind another)");
        GripEstates x = new GripEstates();
        for (int n = 1; n <= 12; n++) {
            Check.due("text " + n, n, Edges.told(x, n <= 7 ? "person age " + n + " grip 1" : "death " + n));
        }
        Check.due("people of all texts", 7, x.count(0));
        Edges.person(x, 0, 1, 2, 3, 4, 5, 6, 7);
        Check.text(x, "death 50");
        Check.refused("a 13th", Check.UNSUPPORTED, x, x::valley);
        Check.due("the 12th stays", 12, x.count(4));
        Check.due("the tape is used up", 0, Check.lengthOfTape(x));
    }

    private static void linesOfTheValley() {
        Edges.says("LINE { ; LINE }, at most 14: person age N grip N");
        GripEstates x = new GripEstates();
        String thirteen = "death 1;".repeat(13);
        Edges.tell(x, thirteen + "death 14");
        Check.due("the 14th counts", 14, x.count(4));
        Edges.wrongValley(x, thirteen + "death 14;@death 15");
        Edges.wrongValley(x, thirteen + "death 14;@");
        Edges.wrongValley(x, thirteen + "death 14; @x");
        Edges.tell(x, "death 1");
        Edges.wrongValley(x, "death 1;@;death 2");
        Edges.wrongValley(x, "@;");
    }

    private static void livingByThen() {
        Edges.says("(heir, of, held, cloth: one of PEOPLE that there is by then, LIVING;");
        Edges.tell(new GripEstates(), "person age 0 grip 5;person age 0 grip 5 heir 0;thing worth 1 size 1 of 1 held 1;"
            + "thing worth 1 size 1 of 1 cloth 0;heir 0 1");
        GripEstates x = Edges.people(2);
        Edges.wrongValley(x, "heir @2 0;person age 0 grip 5");
        Edges.wrongValley(x, "heir 0 @2;person age 0 grip 5");
        Edges.wrongValley(x, "thing worth 1 size 1 of @2;person age 0 grip 5");
        Edges.wrongValley(x, "thing worth 1 size 1 of 0 held @2;person age 0 grip 5");
        Edges.wrongValley(x, "thing worth 1 size 1 of 0 cloth @2;person age 0 grip 5");
        Edges.wrongValley(x, "thing worth 1 size 1 of @7");
        Edges.wrongValley(x, "thing worth 1 size 1 of @32");
        Edges.wrongValley(x, "thing worth 1 size 1 of @999");
        Edges.die(x, "person < 1", 1);
        Edges.wrongValley(x, "person age 0 grip 5 heir @0");
        Edges.wrongValley(x, "heir @0 1");
        Edges.wrongValley(x, "heir 1 @0");
        Edges.wrongValley(x, "thing worth 1 size 1 of @0");
        Edges.wrongValley(x, "thing worth 1 size 1 of 1 held @0");
        Edges.wrongValley(x, "thing worth 1 size 1 of 1 cloth @0");
    }

    private static void heirTwice() {
        Edges.says("of heir N N: not the same twice, else it is wrong at the second one");
        GripEstates x = Edges.people(2);
        Edges.wrongValley(x, "heir 0 @0");
        Edges.wrongValley(x, "heir 1 @1");
        Edges.wrongValley(x, "heir 1 @001");
        Edges.wrongValley(x, "heir 0 @");
        Edges.wrongValley(x, "heir 0 @;heir 0 1");
        Edges.tell(x, "heir 0 1;heir 1 0");
        Edges.person(x, 2, 1, 0);
    }

    private static void heirsAhead() {
        Edges.says("of a person line an HEIR that there was ahead of it");
        GripEstates x = new GripEstates();
        Edges.wrongValley(x, "person age 0 grip 5 heir @0");
        Edges.wrongValley(x, "person age 0 grip 5;person age 0 grip 5 heir @1");
        Edges.tell(x, "person age 0 grip 5;person age 0 grip 5 heir 0;person age 0 grip 5 heir 1");
        Edges.person(x, 2, -1, 0, 1);
    }

    private static void emptyHands() {
        Edges.says("held: its HAND must be empty, else it is wrong at N");
        GripEstates x = Edges.people(2);
        Edges.wrongValley(x, "thing worth 1 size 1 of 0 held 1;thing worth 1 size 1 of 0 held @1");
        Edges.tell(x, "thing worth 1 size 1 of 0 held 1;thing worth 1 size 1 of 0 held 0");
        Edges.wrongValley(x, "thing worth 1 size 1 of 0 held @1");
        x.open(1);
        Edges.tell(x, "thing worth 1 size 1 of 0 held 1");
        Check.due("held", 2, x.person(1, 5));
    }

    private static void heldOrCloth() {
        Edges.says("of held and cloth one at most, held ahead");
        GripEstates x = Edges.people(2);
        Edges.wrongValley(x, "thing worth 1 size 1 of 0 held 0 @cloth 0");
        Edges.wrongValley(x, "thing worth 1 size 1 of 0 cloth 0 @held 0");
        Edges.wrongValley(x, "thing worth 1 size 1 of 0 cloth 0 @cloth 1");
        Edges.wrongValley(x, "thing worth 1 size 1 of 0 held 0 @held 1");
        Edges.tell(x, "thing worth 1 size 1 of 0;thing worth 1 size 1 of 0 held 0;thing worth 1 size 1 of 0 cloth 0");
        Edges.thing(x, 3, 0, 1, 2);
    }

    private static void crownsThings() {
        Edges.says("crown: a THING of the CROWN's, put BY");
        GripEstates x = Edges.people(1);
        Edges.tell(x, "crown worth 1 size 1");
        Edges.thing(x, 2, -1);
        Edges.thing(x, 3, 0);
        Edges.thing(x, 4, -1);
        Edges.wrongValley(x, "crown worth 1 size 1 @of 0");
        Edges.wrongValley(x, "crown worth 1 size 1 @held 0");
        Edges.wrongValley(x, "crown worth 1 size 1 @cloth 0");
    }

    private static void boundsOfSettings() {
        Edges.says("death 0 to 100, night 0 to 999");
        GripEstates x = new GripEstates();
        Edges.tell(x, "death 100;night 999");
        Check.due("death", 100, x.count(4));
        Check.due("night", 999, x.count(6));
        Edges.tell(x, "death 0;night 0");
        Check.due("death", 0, x.count(4));
        Check.due("night", 0, x.count(6));
        Edges.wrongValley(x, "death @101");
        Edges.wrongValley(x, "night @1000");
    }

    private static void digitsOfTheValley() {
        Edges.says("Numbers are of 1 to 3 digits. THE LAW");
        GripEstates x = new GripEstates();
        Edges.tell(x, "death 1;witnesses 006;night 042");
        Check.due("three digits", 6, x.count(5));
        Check.due("three digits", 42, x.count(6));
        Edges.wrongValley(x, "death @0001");
        Edges.wrongValley(x, "death @99999999999999999999");
        Edges.wrongValley(x, "death @4294967297");
        Edges.wrongValley(x, "death @;night 1");
    }

    private static void inPlaceOfTheOneBefore() {
        Edges.says("THE LAW (a text, in place of the one before)");
        GripEstates x = Edges.people(1);
        Check.lawIs(x, "grip 3;grip 4;grip 5");
        Check.due("grips", 17, x.person(0, 6));
        Check.lawIs(x, "grip 1");
        Check.due("of the new one alone", 6, x.person(0, 6));
        Check.due("lines", 1, x.count(3));
        for (int n = 0; n < 20; n++) {
            Check.due("there may be any number, one in place of another", 1, Check.law(x, "grip " + n));
        }
        Check.due("of the latest", 24, x.person(0, 6));
    }

    private static void linesOfTheLaw() {
        Edges.says("LINE { ; LINE }, at most 12: grip N");
        GripEstates x = Edges.people(1);
        String eleven = "grip 1;".repeat(11);
        Check.due("12 lines", 12, Check.law(x, eleven + "grip 20"));
        Check.due("all count", 36, x.person(0, 6));
        Check.due("12 lines with conditions", 12, Check.law(x, "grip 1 if tied;".repeat(11) + "grip 20 if open"));
        Check.due("the last alone holds", 25, x.person(0, 6));
        Check.due("12 lines with conditions", 12, Check.law(x, "grip 1 if open;".repeat(11) + "grip 20 if tied"));
        Check.due("all but the last hold", 16, x.person(0, 6));
        Edges.wrongLaw(x, eleven + "grip 20;@grip 1");
        Edges.wrongLaw(x, eleven + "grip 20 ; @slip 1 if open");
        Edges.wrongLaw(x, eleven + "grip 20;@");
        Edges.wrongLaw(x, "@;grip 1");
        Edges.wrongLaw(x, "grip 1;@;grip 1");
    }

    private static void lessAndMore() {
        Edges.says("SUM < SUM | SUM > SUM.");
        GripEstates x = Edges.people(1);
        Check.lawIs(x, "grip 1 if hand < 5;grip 2 if hand > 5;grip 4 if hand < 6;grip 8 if hand > 4;grip 16 if 0 > 0;"
            + "grip 32 if 0 < 0");
        Check.due("what is alike is neither less nor more", 17, x.person(0, 6));
        String sum = "999" + "+999".repeat(80);
        Check.lawIs(x, "grip 1 if " + sum + " > 999");
        Check.due("a sum as long as a text goes is no less for it", 6, x.person(0, 6));
    }

    private static void digitsOfTheLaw() {
        Edges.says("All numbers are of 1 to 3 digits (N 0 to 40).");
        GripEstates x = Edges.people(1);
        Check.lawIs(x, "grip 40;slip 0;fail 040");
        Check.due("grips", 45, x.person(0, 6));
        Check.due("fails", 40, x.person(0, 7));
        Edges.wrongLaw(x, "grip @41");
        Edges.wrongLaw(x, "slip @41");
        Edges.wrongLaw(x, "fail @41");
        Edges.wrongLaw(x, "fail @0040");
        Edges.wrongLaw(x, "grip 1 if @1000 > 1");
        Edges.wrongLaw(x, "grip 1 if 1 + @0001 > 1");
        Edges.wrongLaw(x, "grip 1 if 1 < @1000");
        Check.lawIs(x, "grip 1 if 999 > 998 and 000 < 1");
        Check.due("999 and 0", 6, x.person(0, 6));
    }

    private static void handsByGrip() {
        Edges.says("hand: its GRIP;");
        GripEstates x = Check.of("person age 0 grip 0;person age 0 grip 9;person age 0 grip 9 tied");
        Check.lawIs(x, "grip 1 if hand < 1;grip 10 if hand > 8;grip 20 if hand > 9");
        Edges.person(x, 6, 1, 19, 21);
    }

    private static void ownsAndLaid() {
        Edges.says("owns: how many THINGS it OWNS; laid: how many lie on its CLOTH;");
        GripEstates x = Check.of(TWO + "thing worth 1 size 9 of 0 cloth 1" + ";thing worth 1 size 9 of 0 cloth 1".repeat(9));
        Check.lawIs(x, "grip 1 if owns < 1;grip 2 if laid < 1;grip 4 if owns > 9;grip 8 if laid > 9;grip 40 if owns > 10 or laid > 10");
        Edges.person(x, 6, 11, 14);
        x.clear(9);
        Edges.person(x, 6, 11, 6);
        x.give(9, 1);
        Edges.person(x, 6, 7, 5);
    }

    private static void sizeOfNothing() {
        Edges.says("size: that of what it holds (0 of nothing)");
        GripEstates x = Check.of(TWO + "thing worth 1 size 12 of 0 held 0");
        Check.lawIs(x, "grip 1 if size < 1;grip 10 if size > 11;grip 20 if size > 12");
        Edges.person(x, 6, 15, 6);
    }

    private static void nightModuloHundred() {
        Edges.says("night: NIGHT modulo 100");
        GripEstates x = Edges.people(1);
        Check.lawIs(x, "grip 1 if night > 98;grip 2 if night < 1");
        int[] nights = {0, 1, 98, 99, 100, 101, 198, 199, 200, 999};
        int[] grips = {7, 5, 5, 6, 7, 5, 5, 6, 7, 6};
        for (int i = 0; i < nights.length; i++) {
            Edges.tell(x, "night " + nights[i]);
            Check.due("grips in night " + nights[i], grips[i], x.person(0, 6));
        }
        x.nights(1);
        Check.due("grips in night 1000", 7, x.person(0, 6));
    }

    private static void openHands() {
        Edges.says("open: it holds nothing");
        GripEstates x = Check.of(TWO + "thing worth 1 size 1 of 0 held 1;thing worth 1 size 1 of 0 cloth 0");
        Check.lawIs(x, "grip 1 if open");
        Edges.person(x, 6, 6, 5);
        x.open(1);
        Edges.person(x, 6, 6, 6);
    }

    private static void aloneOnes() {
        Edges.says("alone: it has no SUCCESSOR");
        GripEstates x = Edges.people(3);
        x.heir(0, 1);
        Check.lawIs(x, "grip 1 if alone");
        Edges.person(x, 6, 5, 6, 6);
        Edges.tell(x, "witnesses 3");
        Edges.person(x, 6, 6, 6, 6);
    }

    private static void twoMoreByWool() {
        Edges.says("GRIPS: GRIP, 2 more, if it is TIED, the sum of N of all grip LINES that hold more,");
        GripEstates x = Check.of("person age 0 grip 0;person age 0 grip 0 tied;person age 0 grip 9 tied");
        Edges.person(x, 6, 0, 2, 11);
        Check.lawIs(x, "grip 40;".repeat(11) + "grip 40");
        Edges.person(x, 6, 480, 482, 491);
        Check.lawIs(x, "grip 40 if 1<0");
        Edges.person(x, 6, 0, 2, 11);
    }

    private static void gripsAtLeast() {
        Edges.says("of all slip LINES less (0 at least)");
        GripEstates x = Check.of("person age 0 grip 5;person age 0 grip 5 tied");
        Check.lawIs(x, "slip 4");
        Edges.person(x, 6, 1, 3);
        Check.lawIs(x, "slip 5");
        Edges.person(x, 6, 0, 2);
        Check.lawIs(x, "slip 6");
        Edges.person(x, 6, 0, 1);
        Check.lawIs(x, "slip 40;slip 40");
        Edges.person(x, 6, 0, 0);
        Check.lawIs(x, "slip 40;grip 36");
        Edges.person(x, 6, 1, 3);
        Check.lawIs(x, "slip 40;grip 34");
        Edges.person(x, 6, 0, 1);
    }

    private static void failsAtMost() {
        Edges.says("FAILS: DEATH, AGE by 5, rounded down, and the sum of N of all fail LINES that hold (100 at most).");
        GripEstates x = Check.of("person age 4 grip 0;person age 5 grip 0;person age 9 grip 0;person age 10 grip 0;"
            + "person age 99 grip 0");
        Edges.person(x, 7, 0, 1, 1, 2, 19);
        Edges.tell(x, "death 80");
        Edges.person(x, 7, 80, 81, 81, 82, 99);
        Check.lawIs(x, "fail 1");
        Edges.person(x, 7, 81, 82, 82, 83, 100);
        Check.lawIs(x, "fail 18");
        Edges.person(x, 7, 98, 99, 99, 100, 100);
        Check.lawIs(x, "fail 40;fail 40;fail 40;fail 40;fail 40;fail 40");
        Edges.tell(x, "death 100");
        Edges.person(x, 7, 100, 100, 100, 100, 100);
    }

    private static void wordsEnd() {
        Edges.says("Words are as long as a to z go on");
        GripEstates x = new GripEstates();
        Edges.tell(x, "death7");
        Check.due("a digit ends a word", 7, x.count(4));
        Edges.wrongValley(x, "@deathnight 1");
        Edges.wrongValley(x, "@a");
        Edges.wrongValley(x, "@z");
        Edges.wrongValley(x, "@deaths 1");
        Edges.wrongValley(x, "@dea th 1");
        Edges.wrongValley(x, "death@` 1");
        Edges.wrongValley(x, "death@{ 1");
        Edges.wrongValley(x, "death@D 1");
        Edges.wrongValley(x, "death 1@/");
        Edges.wrongValley(x, "death 1@:");
        Edges.wrongValley(x, "@DEATH 1");
        Edges.wrongLaw(x, "grip 1 @ifopen");
        Edges.wrongLaw(x, "grip 1 if @notopen");
        Check.lawIs(x, "grip1if not(open)and 1<age or age>1");
    }

    private static void blanks() {
        Edges.says("between all there may be blanks (32), also ahead and behind");
        GripEstates x = new GripEstates();
        Edges.tell(x, "   death   7   ;   night   8   ");
        Edges.tell(x, "death9;night10");
        Check.due("death", 9, x.count(4));
        Check.due("night", 10, x.count(6));
        Check.due("a law", 1, Check.law(x, "  grip  1  if  (  1  <  2  +  3  )  "));
        char[] others = {0, 9, 10, 13, 31, 33, 127, 160, 255};
        for (char other : others) {
            Edges.wrongValley(x, "death@" + other + "1");
            Edges.wrongValley(x, "@" + other + "death 1");
            Edges.wrongValley(x, "death 1@" + other);
            Edges.wrongLaw(x, "grip@" + other + "1");
        }
    }

    private static void textsWithoutLines() {
        Edges.says("A text that is empty, or blanks alone, has no LINE.");
        GripEstates x = new GripEstates();
        Check.due("an empty text", 1, Edges.told(x, ""));
        Check.due("one blank", 2, Edges.told(x, " "));
        Check.due("400 blanks", 3, Edges.told(x, " ".repeat(400)));
        Edges.wrongValley(x, " ".repeat(399) + "@x");
        Edges.wrongLaw(x, " ".repeat(399) + "@x");
        Edges.tell(x, "");
        Check.due("fault", -1, x.fault());
        Check.due("nobody", 0, x.count(0) + x.count(1));
        Check.due("no law yet", -1, x.count(3));
        Check.due("an empty law", 0, Check.law(x, ""));
        Check.due("its lines", 0, x.count(3));
        Check.lawIs(x, "grip 1");
        Check.due("a law of blanks", 0, Check.law(x, " ".repeat(400)));
        Check.due("its lines", 0, x.count(3));
        Check.due("fault", -1, x.fault());
    }

    private static void sixDeep() {
        Edges.says("( and not within one another at most 6 deep.");
        GripEstates x = Edges.people(1);
        Check.lawIs(x, "grip 1 if ((((((open))))))");
        Check.due("six (", 6, x.person(0, 6));
        Check.lawIs(x, "grip 1 if not not not not not not open");
        Check.due("six not", 6, x.person(0, 6));
        Check.lawIs(x, "grip 1 if not(not(not(open)))");
        Check.due("six of both", 5, x.person(0, 6));
        Check.lawIs(x, "grip 1 if (((((open))))) and (((((not open)))))");
        Check.due("six, beside five", 5, x.person(0, 6));
        Check.lawIs(x, "grip 1 if ((((((open)))))) and ((((((open)))))) or ((((((tied))))))");
        Check.due("six, three times beside one another", 6, x.person(0, 6));
        Check.lawIs(x, "grip 1 if ((open or tied) and (not tied or (open))) and (not (not open))");
        Check.due("what was shut is not deep any more", 6, x.person(0, 6));
        Check.lawIs(x, "grip 1 if 1<2 and (1<2 and (1<2 and (1<2 and (1<2 and (1<2 and (1<2 and 1<2 or 2<1))))))");
        Check.due("what waits on each of the six", 6, x.person(0, 6));
        Check.lawIs(x, "grip 1 if 2<1 or 1<2 and (2<1 or 1<2 and (2<1 or 1<2 and (2<1 or 1<2 and (2<1 or 1<2 and "
            + "(2<1 or 1<2 and (2<1 or 1<2 and 2<1))))))");
        Check.due("twice on each of the six", 5, x.person(0, 6));
    }

    private static void moreDigits() {
        Edges.says("The first wrong byte: the begin of the first thing that cannot stand there (a number of more digits,");
        GripEstates x = new GripEstates();
        Edges.wrongValley(x, "death 1 ; night   @0000 ;death x");
        Edges.wrongLaw(x, "grip 1 ; slip   @0000 ;fail x");
        Edges.wrongLaw(x, "grip 1 if 1+2+  @0000 > x");
    }

    private static void outOfBounds() {
        Edges.says("or out of its bounds,");
        GripEstates x = new GripEstates();
        Edges.wrongValley(x, "witnesses 6; witnesses  @7; x");
        Edges.wrongLaw(x, "grip 40; grip  @41; x");
    }

    private static void noneThatCanBe() {
        Edges.says("or that tells none that can be;");
        GripEstates x = new GripEstates();
        Edges.wrongValley(x, TWO + "thing worth 1 size 1 of  @2 held 9");
        Edges.wrongValley(x, TWO + "thing worth 1 size 1 of 0 held  @2; x");
        Edges.wrongValley(x, TWO + "heir  @2 9");
        Edges.wrongValley(x, TWO + "heir 0  @2; x");
    }

    private static void noSuchWord() {
        Edges.says("a word that is none;");
        GripEstates x = Edges.people(1);
        Edges.wrongValley(x, "  @deat 1");
        Edges.wrongValley(x, "person  @old 1 grip 1");
        Edges.wrongValley(x, "person age 1 grip 1  @free");
        Edges.wrongValley(x, "death  @one");
        Edges.wrongLaw(x, "  @gri 1");
        Edges.wrongLaw(x, "grip 1  @when open");
        Edges.wrongLaw(x, "grip 1 if  @shut");
        Edges.wrongLaw(x, "grip 1 if age <  @old");
        Edges.wrongLaw(x, "grip 1 if open  @nor tied");
    }

    private static void theSeventhDeep() {
        Edges.says("the ( or not that is a 7th one deep;");
        GripEstates x = Edges.people(1);
        Edges.wrongLaw(x, "grip 1 if ((((((@(open)))))))");
        Edges.wrongLaw(x, "grip 1 if not not not not not not @not open");
        Edges.wrongLaw(x, "grip 1 if not(not(not(@not open)))");
        Edges.wrongLaw(x, "grip 1 if (not(not(not @(open))))");
        Edges.wrongLaw(x, "grip 1 if open and ((((((open or @(tied)))))))");
        Edges.wrongLaw(x, "grip 1 if ((((((1<2 and @not tied))))))");
        Edges.wrongLaw(x, "grip 1 if ((((((@" + "(".repeat(300));
    }

    private static void tooMany() {
        Edges.says("of a LINE, a person, a THING too many, the first word)");
        GripEstates x = new GripEstates();
        Edges.wrongValley(x, "death 1;".repeat(14) + "   @death 2");
        Edges.wrongLaw(x, "fail 1;".repeat(12) + "   @fail 2");
        Edges.wrongValley(x, "person age 1 grip 1;".repeat(7) + "   @person age 100 grip 10");
        Edges.wrongValley(x, "person age 1 grip 1;" + "crown worth 1 size 1;".repeat(10) + "   @thing worth 100");
        Edges.wrongValley(x, "crown worth 1 size 1;".repeat(10) + "   @crown worth 100");
    }

    private static void moreMustCome() {
        Edges.says("or the text's length, if more must come.");
        GripEstates x = Edges.people(2);
        String[] valley = {"person", "person age", "person age 1", "person age 1 grip", "person age 1 grip 1 heir", "heir",
            "heir 0", "thing", "thing worth", "thing worth 1", "thing worth 1 size", "thing worth 1 size 1",
            "thing worth 1 size 1 of", "thing worth 1 size 1 of 0 held", "thing worth 1 size 1 of 0 cloth", "crown",
            "crown worth", "crown worth 1", "crown worth 1 size", "death", "witnesses", "night", "death 1;"};
        for (String text : valley) {
            Edges.wrongValley(x, text + "@");
            Edges.wrongValley(x, text + "   @");
        }
        String[] law = {"grip", "slip", "fail", "grip 1 if", "grip 1 if not", "grip 1 if (", "grip 1 if (open", "grip 1 if 1",
            "grip 1 if 1+", "grip 1 if 1<", "grip 1 if age>1+", "grip 1 if open or", "grip 1 if open and", "grip 1;"};
        for (String text : law) {
            Edges.wrongLaw(x, text + "@");
            Edges.wrongLaw(x, text + "   @");
        }
        Edges.wrongValley(x, " ".repeat(395) + "death@");
        Edges.wrongLaw(x, " ".repeat(396) + "grip@");
    }

    private static void nothingStays() {
        Edges.says("Of a wrong text nothing stays.");
        GripEstates x = Edges.people(2);
        Check.lawIs(x, "grip 2");
        x.tie(0, true);
        Edges.wrongValley(x, "person age 1 grip 1;heir 0 1;thing worth 1 size 1 of 0 held 0;crown worth 1 size 1;death 5;"
            + "witnesses 5;night 5;@");
        Edges.wrongLaw(x, "grip 9;fail 9;@");
        Check.due("acts are still remembered", true, x.undo());
        Edges.tell(x, "death 1");
        Check.due("one text more alone", 2, x.count(2));
        Check.due("two people still", 2, x.count(0));
    }
}
