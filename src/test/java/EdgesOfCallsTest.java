/** The document's sentences on undoing, exceptions and the promises 1 to 24 that name an edge: each has a test of its own, in its order. */
public final class EdgesOfCallsTest {
    /** No person of three, no thing of four. */
    private static final int[] NOBODY = {-2, 3, 7};
    private static final int[] NOTHING = {-1, -2, 4, 10};

    public static void main(String[] args) {
        twelveAreRemembered();
        actsBehindUndoneOnes();
        undoneButForTheTape();
        noneAreRemembered();
        oneImage();
        firstOfSeveral();
        nothingChangesButTheTape();
        noSuchPerson();
        noSuchThing();
        numbersThatAreNone();
        whatCannotBe();
        setsOfNone();
        aNewObject();
        feeding();
        ending();
        valleyTexts();
        lawTexts();
        faults();
        whatsOfPersons();
        whatsOfThings();
        shutting();
        nights();
        layings();
        clearings();
        wakings();
        openings();
        swaps();
        heirs();
        ties();
        births();
        gifts();
        hoards();
        rounds();
        escheats();
        watches();
        puts();
        Check.end();
    }

    /** Three people, of whom 2 is dead, and four things: put by, held by 0, on the cloth of 1, the crown's. */
    private static GripEstates valley() {
        GripEstates x = Check.of(Edges.peopleText(3) + ";thing worth 5 size 5 of 0;thing worth 6 size 1 of 0 held 0;"
            + "thing worth 7 size 12 of 1 cloth 1;crown worth 8 size 1");
        Edges.die(x, "person > 1", 1);
        return x;
    }

    private static void twelveAreRemembered() {
        Edges.says("UNDONE: the latest ACT not undone yet (12 are remembered; NIGHTS of one call are one):");
        GripEstates x = Edges.people(7);
        String[] seen = new String[13];
        for (int i = 0; i < 13; i++) {
            seen[i] = Check.seenButForActs(x);
            if (i == 5) {
                x.nights(40);
            } else {
                x.heir(0, i % 6 + 1);
            }
            Check.due("remembered", Math.min(12, i + 1), x.count(11));
        }
        for (int i = 12; i >= 1; i--) {
            Check.due("undone", true, x.undo());
            Check.due("left", i - 1, x.count(11));
            Check.due("as ahead of " + i, seen[i], Check.seenButForActs(x));
        }
        Check.due("a 13th", false, x.undo());
        Check.due("the first act is not undone", 1, x.person(0, 2));
    }

    private static void actsBehindUndoneOnes() {
        Edges.says("the latest ACT not undone yet (12 are remembered;");
        GripEstates x = Edges.people(3);
        for (int i = 0; i < 12; i++) {
            x.tie(0, i % 2 == 0);
        }
        for (int i = 0; i < 5; i++) {
            x.undo();
        }
        Check.due("tied by the 7th", 1, x.person(0, 3));
        Check.due("seven are left", 7, x.count(11));
        for (int i = 0; i < 5; i++) {
            x.heir(1, i % 2 * 2);
        }
        Check.due("twelve again", 12, x.count(11));
        int[] heirs = {2, 0, 2, 0, -1};
        for (int i = 0; i < 5; i++) {
            x.undo();
            Check.due("heir ahead of act " + (12 - i), i == 4 ? -1 : heirs[i], x.person(1, 2));
        }
        for (int i = 0; i < 7; i++) {
            Check.due("undone", true, x.undo());
            Check.due("wool ahead of act " + (7 - i), i % 2, x.person(0, 3));
        }
        Check.due("no more", false, x.undo());
    }

    private static void undoneButForTheTape() {
        Edges.says("all is as ahead of it (but for the TAPE, fault(), THE IMAGE).");
        GripEstates x = valley();
        x.seed(123);
        String before = Check.seen(x);
        x.nights(1);
        x.seed(77);
        x.image();
        x.feed(1, 2, 3, 4, 5);
        Check.due("wrong", Check.ARGUMENT, Check.answerOf(x::valley));
        x.feed(1, 2, 3, 4, 5);
        x.feed(1, 2, 3, 4, 5);
        Check.due("undone", true, x.undo());
        Check.due("all as ahead of it, the seed, too", before, Check.seen(x));
        Check.due("but for the tape", true, x.end(40));
        Check.due("but for fault()", 0, x.fault());
        Check.due("but for the image", true, x.back());
        Check.due("its seed", 77, Edges.seedNow(x));
    }

    private static void noneAreRemembered() {
        Edges.says("A text, going back: none are remembered.");
        GripEstates x = valley();
        x.tie(0, true);
        Edges.wrongValley(x, "@x");
        Edges.wrongLaw(x, "@x");
        Check.due("wrong texts", 1, x.count(11));
        Check.due("no image", false, x.back());
        Check.due("that was no going back", 1, x.count(11));
        x.image();
        Check.due("an image", 1, x.count(11));
        Edges.tell(x, "");
        Check.due("a text of the valley", 0, x.count(11));
        Check.due("nothing to undo", false, x.undo());
        x.tie(0, false);
        Check.lawIs(x, "");
        Check.due("a law", 0, x.count(11));
        x.tie(0, true);
        x.back();
        Check.due("going back", 0, x.count(11));
        Check.due("nothing to undo", false, x.undo());
        x.tie(0, false);
        Check.due("an act behind that", true, x.undo());
        Check.due("and no more", false, x.undo());
        for (int n = x.count(2); n < 12; n++) {
            Edges.tell(x, "");
        }
        x.tie(0, false);
        Check.due("a 13th text", Check.UNSUPPORTED, Edges.told(x, ""));
        Check.due("is not told", 1, x.count(11));
    }

    private static void oneImage() {
        Edges.says("THE IMAGE (one) of all may be kept, and gone back to (but for the TAPE, fault() and THE IMAGE itself).");
        GripEstates x = valley();
        Check.lawIs(x, "grip 1");
        x.seed(9);
        x.image();
        String first = Check.seenButForActs(x);
        x.nights(30);
        x.image();
        String second = Check.seenButForActs(x);
        Edges.tell(x, "death 100;night 500;witnesses 6;person age 9 grip 9 heir 0;crown worth 9 size 9");
        Check.lawIs(x, "slip 40;fail 1");
        x.nights(60);
        Check.due("wrong", Check.ARGUMENT, Edges.told(x, "death"));
        x.feed(0, 0, 0, 0, 0);
        Check.due("back", true, x.back());
        Check.due("to the second, the first is gone", second, Check.seenButForActs(x));
        Check.due("that is another one", false, first.equals(second));
        Check.due("but for the tape", true, x.end(20));
        Check.due("but for fault()", 5, x.fault());
        x.nights(1);
        Check.due("back a second time", true, x.back());
        Check.due("it is still kept", second, Check.seenButForActs(x));
    }

    private static void firstOfSeveral() {
        Edges.says("Of several exceptions the one told first is thrown;");
        GripEstates x = valley();
        Check.refused("no person, no what", Check.INDEX, x, () -> x.person(3, 18));
        Check.refused("no thing, no what", Check.INDEX, x, () -> x.thing(4, 5));
        Check.refused("lay what is held for nobody", Check.INDEX, x, () -> x.lay(1, 3));
        Check.refused("lay nothing for a dead one", Check.INDEX, x, () -> x.lay(4, 2));
        Check.refused("give what is held to nobody", Check.INDEX, x, () -> x.give(1, 3));
        Check.refused("give nothing to a dead one", Check.INDEX, x, () -> x.give(4, 2));
        Check.refused("swap of nobody twice", Check.INDEX, x, () -> x.swap(3, 3));
        Check.refused("swap of a dead one with nobody", Check.INDEX, x, () -> x.swap(2, 3));
        Check.refused("swap of nobody with a dead one", Check.INDEX, x, () -> x.swap(-1, 2));
        Check.refused("swap of a dead one twice", Check.ARGUMENT, x, () -> x.swap(2, 2));
        Check.refused("heir of nobody twice", Check.INDEX, x, () -> x.heir(3, 3));
        Check.refused("heir of none, none", Check.INDEX, x, () -> x.heir(-1, -1));
        Check.refused("hoard of nobody, no room", Check.INDEX, x, () -> x.hoard(3, 121, true));
        Check.refused("ahead of nobody, no nights", Check.INDEX, x, () -> x.ahead(3, 61));
        GripEstates full = Edges.people(7);
        Check.refused("an eighth of no grip", Check.ARGUMENT, full, () -> full.born(10));
        for (int n = 2; n <= 12; n++) {
            Edges.tell(full, "");
        }
        Check.text(full, "x");
        Check.refused("a 13th text that is wrong", Check.ARGUMENT, full, full::valley);
        Check.text(full, "");
        Check.refused("a 13th text", Check.UNSUPPORTED, full, full::valley);
    }

    private static void nothingChangesButTheTape() {
        Edges.says("a call that throws changes nothing but the TAPE, where it is used up.");
        GripEstates x = valley();
        x.tie(0, true);
        Check.Call[] others = {() -> x.person(9, 0), () -> x.thing(9, 0), () -> x.shuts(9, 0), () -> x.nights(0), () -> x.lay(1, 0),
            () -> x.clear(0), () -> x.wake(1), () -> x.open(1), () -> x.swap(0, 0), () -> x.heir(0, 0), () -> x.tie(9, true) ? 1 : 0,
            () -> x.born(10), () -> x.give(0, 0), () -> x.hoard(0, 121, true), () -> x.put(9), () -> x.pairs(9), () -> x.rests(9),
            () -> x.odds(5), () -> x.most(3), () -> x.ahead(0, 61), () -> x.trial(61, true), () -> x.span(61, true),
            () -> x.led(9, true), () -> x.log(0, 5)};
        for (int i = 0; i < others.length; i++) {
            x.end(0);
            x.feed(0x78202020, 0, 0, 0, 0);
            String before = Check.seen(x);
            Check.due("call " + i + " throws", true, Check.answerOf(others[i]) >= Check.INDEX);
            Check.due("call " + i + " changes nothing", before, Check.seen(x));
            Check.due("call " + i + " leaves the tape", 20, Check.lengthOfTape(x));
        }
        Check.Call[] users = {x::valley, x::law, x::held, x::likely, x::ask, () -> x.strong(true), x::test,
            () -> x.fingers(5) ? 1 : 0, () -> x.opens(5)};
        for (int i = 0; i < users.length; i++) {
            x.feed(0x78202020, 0, 0, 0, 0);
            x.end(7);
            String before = Check.seen(x);
            Check.dueOf("user " + i, Check.ARGUMENT, users[i]);
            Check.due("user " + i + " changes nothing", before, Check.seen(x));
            Check.due("user " + i + " uses the tape up", 0, Check.lengthOfTape(x));
        }
        Check.due("what could be undone still can be", true, x.undo());
    }

    private static void noSuchPerson() {
        Edges.says("IndexOutOfBoundsException: there is no such person,");
        GripEstates x = valley();
        for (int p : NOBODY) {
            noPerson(x, p);
        }
        for (int p : Edges.FAR) {
            noPerson(x, p);
        }
        noPersonOrNone(x, -1);
    }

    private static void noPerson(GripEstates x, int p) {
        noPersonOrNone(x, p);
        Check.refused("put " + p, Check.INDEX, x, () -> x.put(p));
        Check.refused("pairs " + p, Check.INDEX, x, () -> x.pairs(p));
        Check.refused("heir to " + p, Check.INDEX, x, () -> x.heir(0, p));
    }

    private static void noPersonOrNone(GripEstates x, int p) {
        Check.refused("person " + p, Check.INDEX, x, () -> x.person(p, 0));
        Check.refused("shuts " + p, Check.INDEX, x, () -> x.shuts(p, 0));
        Check.refused("lay for " + p, Check.INDEX, x, () -> x.lay(0, p));
        Check.refused("open " + p, Check.INDEX, x, () -> x.open(p));
        Check.refused("swap " + p, Check.INDEX, x, () -> x.swap(p, 0));
        Check.refused("swap with " + p, Check.INDEX, x, () -> x.swap(0, p));
        Check.refused("heir of " + p, Check.INDEX, x, () -> x.heir(p, 0));
        Check.refused("tie " + p, Check.INDEX, x, () -> x.tie(p, true) ? 1 : 0);
        Check.refused("give to " + p, Check.INDEX, x, () -> x.give(0, p));
        Check.refused("hoard of " + p, Check.INDEX, x, () -> x.hoard(p, 0, false));
        Check.refused("rests " + p, Check.INDEX, x, () -> x.rests(p));
        Check.refused("ahead of " + p, Check.INDEX, x, () -> x.ahead(p, 0));
        Check.refused("led " + p, Check.INDEX, x, () -> x.led(p, false));
    }

    private static void noSuchThing() {
        Edges.says("there is no such person, THING.");
        GripEstates x = valley();
        for (int t : NOTHING) {
            noThing(x, t);
        }
        for (int t : Edges.FAR) {
            noThing(x, t);
        }
    }

    private static void noThing(GripEstates x, int t) {
        Check.refused("thing " + t, Check.INDEX, x, () -> x.thing(t, 0));
        Check.refused("shuts on " + t, Check.INDEX, x, () -> x.shuts(0, t));
        Check.refused("lay " + t, Check.INDEX, x, () -> x.lay(t, 0));
        Check.refused("clear " + t, Check.INDEX, x, () -> x.clear(t));
        Check.refused("wake " + t, Check.INDEX, x, () -> x.wake(t));
        Check.refused("give " + t, Check.INDEX, x, () -> x.give(t, 1));
    }

    private static void numbersThatAreNone() {
        Edges.says("IllegalArgumentException: a number is none, or two are one.");
        GripEstates x = valley();
        for (int n : Edges.FAR) {
            if (n > 60 || n < 0) {
                Check.refused("nights " + n, Check.ARGUMENT, x, () -> x.nights(n));
                Check.refused("ahead " + n, Check.ARGUMENT, x, () -> x.ahead(0, n));
                Check.refused("trial " + n, Check.ARGUMENT, x, () -> x.trial(n, true));
                Check.refused("span " + n, Check.ARGUMENT, x, () -> x.span(n, true));
            }
            if (n > 120 || n < 0) {
                Check.refused("hoard " + n, Check.ARGUMENT, x, () -> x.hoard(0, n, true));
            }
            Check.refused("born " + n, Check.ARGUMENT, x, () -> x.born(n));
            Check.refused("odds " + n, Check.ARGUMENT, x, () -> x.odds(n));
        }
        Check.refused("two are one", Check.ARGUMENT, x, () -> x.swap(1, 1));
        Check.refused("two are one", Check.ARGUMENT, x, () -> x.heir(1, 1));
    }

    private static void whatCannotBe() {
        Edges.says("IllegalStateException: it cannot be.");
        GripEstates x = valley();
        Check.refused("lay what is held", Check.STATE, x, () -> x.lay(1, 0));
        Check.refused("clear what is held", Check.STATE, x, () -> x.clear(1));
        Check.refused("wake what is held", Check.STATE, x, () -> x.wake(1));
        Check.refused("open an empty hand", Check.STATE, x, () -> x.open(1));
        Check.refused("swap with a dead one", Check.STATE, x, () -> x.swap(0, 2));
        Check.refused("give to a dead one", Check.STATE, x, () -> x.give(0, 2));
        GripEstates full = Edges.people(7);
        Check.refused("an eighth", Check.STATE, full, () -> full.born(0));
    }

    private static void setsOfNone() {
        Edges.says("Sets are bits; of none they count for nothing.");
        GripEstates nobody = new GripEstates();
        int all = nobody.round() | nobody.escheat() | nobody.watch() | nobody.living() | nobody.idle() | nobody.crown()
            | nobody.trial(0, false);
        Check.due("sets of nobody", 0, all);
        Check.tape(nobody);
        Check.due("held of no thing", 0, Check.answerOf(nobody::held));
        GripEstates one = Edges.people(1);
        for (int what : new int[] {8, 9, 13, 14}) {
            Check.due("sets of one, what " + what, 0, one.person(0, what));
        }
        Check.due("a hoard of none", 0, one.hoard(0, 120, true));
    }

    private static void aNewObject() {
        Edges.says("`GripEstates()`: A valley of nobody.");
        GripEstates x = new GripEstates();
        int[] counts = {0, 0, 0, -1, 0, 2, 0, 0, 0, 0, 0, 0};
        for (int what = 0; what < counts.length; what++) {
            Check.due("count " + what, counts[what], x.count(what));
        }
        Check.refused("person 0", Check.INDEX, x, () -> x.person(0, 0));
        Check.refused("thing 0", Check.INDEX, x, () -> x.thing(0, 0));
        Check.due("a night of nobody", 0, x.nights(60));
        Check.due("draws nothing", 1, Edges.seedNow(x));
    }

    private static void feeding() {
        Edges.says("Twenty bytes come behind the TAPE, of each number the highest first: how many it has; NONE, and none come, if it would "
            + "have more than 400.");
        GripEstates x = new GripEstates();
        for (int n = 1; n <= 20; n++) {
            Check.due("feed " + n, 20 * n, x.feed(-1, -1, -1, -1, -1));
        }
        Check.due("to 420", -1, x.feed(0, 0, 0, 0, 0));
        Check.due("none came", false, x.end(401));
        Check.due("cut to 381", true, x.end(381));
        Check.due("to 401", -1, x.feed(0, 0, 0, 0, 0));
        Check.due("none came", false, x.end(382));
        Check.due("cut to 380", true, x.end(380));
        Check.due("to 400", 400, x.feed(0, 0, 0, 0, 0));
        GripEstates y = new GripEstates();
        y.feed(0x64656174, 0x68203420, 0x3b6e6967, 0x68742031, 0x32332020);
        Check.due("death 4 ;night 123", 1, Check.answerOf(y::valley));
        Check.due("death", 4, y.count(4));
        Check.due("night", 123, y.count(6));
        y.feed(0x80ff0102, 0, 0, 0, 0);
        y.end(1);
        Check.dueOf("a byte of 128", Check.ARGUMENT, y::valley);
    }

    private static void ending() {
        Edges.says("The TAPE has its first n bytes alone: true; false, and nothing happens, if it has fewer, or n is below 0.");
        GripEstates x = new GripEstates();
        Check.due("0 of 0", true, x.end(0));
        Check.due("1 of 0", false, x.end(1));
        x.feed(0x64656174, 0x68203536, 0x37000000, 0, 0);
        Check.due("21 of 20", false, x.end(21));
        Check.due("-1 of 20", false, x.end(-1));
        Check.due("MIN of 20", false, x.end(Edges.MIN));
        Check.due("MAX of 20", false, x.end(Edges.MAX));
        Check.due("20 of 20", true, x.end(20));
        Check.due("8 of 20", true, x.end(8));
        Check.due("9 of 8", false, x.end(9));
        Check.due("death 56", 1, Check.answerOf(() -> {
            x.end(8);
            return x.valley();
        }));
        Check.due("the first bytes alone", 56, x.count(4));
        Check.due("used up, 1 of 0", false, x.end(1));
    }

    private static void valleyTexts() {
        Edges.says("Uses the TAPE up: a text of THE VALLEY: how many there are. IllegalArgumentException: it is wrong; "
            + "UnsupportedOperationException: there are 12.");
        GripEstates x = new GripEstates();
        for (int n = 1; n <= 12; n++) {
            Check.text(x, "death " + n);
            Check.dueOf("text " + n, n, x::valley);
            Check.due("used up", 0, Check.lengthOfTape(x));
        }
        Check.text(x, "death 13");
        Check.refused("a 13th", Check.UNSUPPORTED, x, x::valley);
        Check.due("used up", 0, Check.lengthOfTape(x));
        Edges.wrongValley(x, "@x");
        Check.due("twelve", 12, x.count(2));
    }

    private static void lawTexts() {
        Edges.says("Uses the TAPE up: THE LAW: how many LINES. IllegalArgumentException: the text is wrong.");
        GripEstates x = Edges.people(1);
        for (int n = 0; n <= 12; n++) {
            Check.text(x, n == 0 ? "" : "grip 1;".repeat(n - 1) + "grip 1");
            Check.dueOf("lines " + n, n, x::law);
            Check.due("used up", 0, Check.lengthOfTape(x));
            Check.due("count", n, x.count(3));
        }
        Edges.wrongLaw(x, "grip@");
        Check.due("twelve still", 12, x.count(3));
    }

    private static void faults() {
        Edges.says("The first wrong byte of the latest text that was read; NONE without one, and ahead of any.");
        GripEstates x = new GripEstates();
        Check.due("ahead of any", -1, x.fault());
        Edges.wrongValley(x, "death@");
        Edges.wrongLaw(x, "@death 1");
        Check.tape(x, 9);
        Check.dueOf("what is told is no text", Check.ARGUMENT, x::held);
        Check.due("of the latest text still", 0, x.fault());
        Edges.tell(x, "death 1");
        Check.due("of a right one", -1, x.fault());
        Edges.wrongLaw(x, "grip 1;@");
        Edges.tell(x, "");
        Check.due("of a right one", -1, x.fault());
        Edges.wrongValley(x, "death 1;@");
        Check.lawIs(x, "");
        Check.due("of a right law", -1, x.fault());
        Edges.wrongValley(x, "death 1" + " ".repeat(392) + ";@");
        Check.due("behind a text of 400", 400, x.fault());
        Edges.wrongValley(x, "death 1" + " ".repeat(392) + "@x");
        Edges.wrongLaw(x, "grip 1" + " ".repeat(393) + ";@");
    }

    private static void whatsOfPersons() {
        Edges.says("`int person(int person, int what) throws IndexOutOfBoundsException, NoSuchElementException`: Of a person what 0 AGE, 1 "
            + "GRIP, 2 HEIR (NONE), 3 1 if TIED, 4 1 if LIVING, 5 the THING it holds (NONE),");
        GripEstates x = valley();
        int[] whats = {-1, 18, 19, Edges.MIN, Edges.MAX};
        for (int what : whats) {
            Check.refused("what " + what, Check.ELEMENT, x, () -> x.person(0, what));
            Check.refused("what " + what + " of a dead one", Check.ELEMENT, x, () -> x.person(2, what));
        }
        int[] first = {0, 5, -1, 0, 1, 1, 5, 0, 3, 0, -1, 0, 11, 0, 0, 0, 1, 42};
        int[] dead = {0, 5, -1, 0, 0, -1, 5, 0, 0, 0, -1, 0, 0, 0, 0, 0, -1, 0};
        for (int what = 0; what <= 17; what++) {
            Check.due("of 0 what " + what, first[what], x.person(0, what));
            Check.due("of a dead one what " + what, dead[what], x.person(2, what));
        }
    }

    private static void whatsOfThings() {
        Edges.says("2 OWNER (NONE the CROWN), 3 0 put BY, 1 in a HAND, 2 on a CLOTH, 4 whose HAND or CLOTH (NONE). "
            + "NoSuchElementException: another what.");
        GripEstates x = valley();
        Edges.thing(x, 2, 0, 0, 1, -1);
        Edges.thing(x, 3, 0, 1, 2, 0);
        Edges.thing(x, 4, -1, 0, 1, -1);
        int[] whats = {-1, 5, 6, Edges.MIN, Edges.MAX};
        for (int what : whats) {
            Check.refused("what " + what, Check.ELEMENT, x, () -> x.thing(0, what));
        }
    }

    private static void shutting() {
        Edges.says("`int shuts(int person, int thing) throws IndexOutOfBoundsException`: SHUTS.");
        GripEstates x = valley();
        Check.due("too large", 0, x.shuts(1, 2));
        Check.due("the crown's", 0, x.shuts(1, 3));
        Check.due("of a dead one", 0, x.shuts(2, 2));
        Check.refused("both are none", Check.INDEX, x, () -> x.shuts(3, 4));
    }

    private static void nights() {
        Edges.says("So many NIGHTS more (1 to 60): how many died in these. IllegalArgumentException: they are none.");
        GripEstates x = valley();
        Check.refused("0", Check.ARGUMENT, x, () -> x.nights(0));
        Check.refused("61", Check.ARGUMENT, x, () -> x.nights(61));
        Check.refused("-1", Check.ARGUMENT, x, () -> x.nights(-1));
        Check.due("1", 0, x.nights(1));
        Check.due("60", true, x.nights(60) <= 2);
        Check.due("nights", 62, x.count(6));
        GripEstates all = Edges.people(7);
        Edges.tell(all, "death 100");
        Check.due("all seven", 7, all.nights(60));
        Check.due("nobody more", 0, all.nights(60));
    }

    private static void layings() {
        Edges.says("A THING is laid on a CLOTH: how many lie there then. IllegalStateException: it is not put BY, or the CROWN's, or the "
            + "person is dead.");
        GripEstates x = valley();
        Check.refused("in a hand", Check.STATE, x, () -> x.lay(1, 1));
        Check.refused("on a cloth", Check.STATE, x, () -> x.lay(2, 0));
        Check.refused("the crown's", Check.STATE, x, () -> x.lay(3, 0));
        Check.refused("a dead one", Check.STATE, x, () -> x.lay(0, 2));
        Check.due("two lie there", 2, x.lay(0, 1));
        Check.refused("a second time", Check.STATE, x, () -> x.lay(0, 1));
    }

    private static void clearings() {
        Edges.says("It is cleared: on whose CLOTH it was. IllegalStateException: it lies on none.");
        GripEstates x = valley();
        for (int t : new int[] {0, 1, 3}) {
            Check.refused("thing " + t, Check.STATE, x, () -> x.clear(t));
        }
        Check.due("whose", 1, x.clear(2));
        Check.refused("a second time", Check.STATE, x, () -> x.clear(2));
    }

    private static void wakings() {
        Edges.says("A THING is put into the HAND of its OWNER: who that is. IllegalStateException: it is not put BY, or the CROWN's, or the "
            + "OWNER holds something, or SIZE is above its GRIPS.");
        GripEstates x = valley();
        Check.refused("in a hand", Check.STATE, x, () -> x.wake(1));
        Check.refused("on a cloth", Check.STATE, x, () -> x.wake(2));
        Check.refused("the crown's", Check.STATE, x, () -> x.wake(3));
        Check.refused("it holds something", Check.STATE, x, () -> x.wake(0));
        x.open(0);
        Check.lawIs(x, "slip 1");
        Check.refused("above its grips", Check.STATE, x, () -> x.wake(0));
        Check.lawIs(x, "");
        Check.due("who", 0, x.wake(0));
    }

    private static void openings() {
        Edges.says("A HAND is opened: the THING that it held. IllegalStateException: it holds nothing.");
        GripEstates x = valley();
        Check.refused("nothing", Check.STATE, x, () -> x.open(1));
        Check.refused("a dead one", Check.STATE, x, () -> x.open(2));
        Check.due("the thing", 1, x.open(0));
    }

    private static void swaps() {
        Edges.says("Two swap what they hold: the THING that the first one holds then; NONE. IllegalArgumentException: both are one; "
            + "IllegalStateException: one of them is dead.");
        GripEstates x = valley();
        Check.refused("one", Check.ARGUMENT, x, () -> x.swap(0, 0));
        Check.refused("the first is dead", Check.STATE, x, () -> x.swap(2, 0));
        Check.refused("the second is dead", Check.STATE, x, () -> x.swap(0, 2));
        Check.due("none", -1, x.swap(0, 1));
        Check.due("the thing", 1, x.swap(0, 1));
        Check.due("none", -1, x.swap(0, 1));
        x.open(1);
        Check.due("both hold nothing", -1, x.swap(0, 1));
    }

    private static void heirs() {
        Edges.says("An HEIR is told (NONE: none): who it was; NONE. IllegalArgumentException: both are one.");
        GripEstates x = valley();
        Check.due("none was", -1, x.heir(0, -1));
        Check.due("none was", -1, x.heir(0, 2));
        Check.due("2 was", 2, x.heir(0, -1));
        Check.due("none is", -1, x.person(0, 2));
        Check.refused("both are one", Check.ARGUMENT, x, () -> x.heir(0, 0));
        Check.refused("both are one, dead", Check.ARGUMENT, x, () -> x.heir(2, 2));
        Check.refused("-2 is not none", Check.INDEX, x, () -> x.heir(0, -2));
    }

    private static void ties() {
        Edges.says("Wool is tied, or loosed: whether that changed.");
        GripEstates x = Edges.people(7);
        for (int p = 0; p < 7; p++) {
            Check.due("loosed, not tied", false, x.tie(p, false));
            Check.due("tied", true, x.tie(p, true));
            Check.due("tied again", false, x.tie(p, true));
        }
        Edges.person(x, 3, 1, 1, 1, 1, 1, 1, 1);
        Check.due("loosed", true, x.tie(3, false));
        Edges.person(x, 3, 1, 1, 1, 0, 1, 1, 1);
    }

    private static void births() {
        Edges.says("A child is born: its number. IllegalArgumentException: GRIP is none (0 to 9); IllegalStateException: there are 7.");
        GripEstates x = new GripEstates();
        Check.refused("-1", Check.ARGUMENT, x, () -> x.born(-1));
        Check.refused("10", Check.ARGUMENT, x, () -> x.born(10));
        for (int n = 0; n < 7; n++) {
            Check.due("its number", n, x.born(n == 0 ? 0 : n + 3));
        }
        Edges.person(x, 1, 0, 4, 5, 6, 7, 8, 9);
        Check.refused("an eighth", Check.STATE, x, () -> x.born(0));
        Check.refused("an eighth of 10", Check.ARGUMENT, x, () -> x.born(10));
        // The dead count among the seven.
        Edges.tell(x, "death 100");
        x.nights(1);
        Check.refused("an eighth when all are dead", Check.STATE, x, () -> x.born(0));
    }

    private static void gifts() {
        Edges.says("A THING is given: whose it was. IllegalStateException: it is not put BY, or the CROWN's, or the person is dead, or its "
            + "OWNER.");
        GripEstates x = valley();
        Check.refused("in a hand", Check.STATE, x, () -> x.give(1, 1));
        Check.refused("on a cloth", Check.STATE, x, () -> x.give(2, 0));
        Check.refused("the crown's", Check.STATE, x, () -> x.give(3, 0));
        Check.refused("a dead one", Check.STATE, x, () -> x.give(0, 2));
        Check.refused("its owner", Check.STATE, x, () -> x.give(0, 0));
        Check.due("whose", 0, x.give(0, 1));
        Check.refused("its owner then", Check.STATE, x, () -> x.give(0, 1));
        Check.due("whose", 1, x.give(0, 0));
    }

    private static void hoards() {
        Edges.says("HOARD (which false), or WHICH, as bits. IllegalArgumentException: W is none.");
        GripEstates x = valley();
        Check.refused("-1", Check.ARGUMENT, x, () -> x.hoard(0, -1, true));
        Check.refused("121", Check.ARGUMENT, x, () -> x.hoard(0, 121, false));
        Check.due("0", 0, x.hoard(0, 0, true));
        Check.due("120", 3, x.hoard(0, 120, true));
        Check.due("120", 11, x.hoard(0, 120, false));
        Check.due("of a dead one", 0, x.hoard(2, 120, false));
    }

    private static void rounds() {
        Edges.says("`int round()`: ROUND, as bits.");
        Check.due("nobody", 0, new GripEstates().round());
        GripEstates x = valley();
        Check.due("no heirs", 0, x.round());
        x.heir(1, 2);
        x.heir(2, 1);
        Check.due("by a dead one", 6, x.round());
    }

    private static void escheats() {
        Edges.says("`int escheat()`: ESCHEAT, as bits.");
        Check.due("nobody", 0, new GripEstates().escheat());
        GripEstates x = valley();
        x.heir(0, 1);
        Check.due("one other is too few", 3, x.escheat());
        Edges.tell(x, "witnesses 1");
        Check.due("one other is enough", 2, x.escheat());
    }

    private static void watches() {
        Edges.says("`int watch()`: WATCH, as bits.");
        Check.due("nobody", 0, new GripEstates().watch());
        GripEstates x = valley();
        x.heir(0, 1);
        Check.due("one other is too few", 3, x.watch());
        Edges.tell(x, "witnesses 1");
        Check.due("one other is enough", 2, x.watch());
        x.heir(1, 0);
        Check.due("of several the least", 1, x.watch());
    }

    private static void puts() {
        Edges.says("PUT: how much (person NONE), or which THING; NONE.");
        GripEstates x = valley();
        // The crown's 8 and 6, or 5, in two hands: 8 and 6.
        Check.due("how much", 14, x.put(-1));
        Check.due("0 has", 1, x.put(0));
        Check.due("1 has", 3, x.put(1));
        Check.due("a dead one has none", -1, x.put(2));
        Check.refused("-2", Check.INDEX, x, () -> x.put(-2));
        Check.refused("3", Check.INDEX, x, () -> x.put(3));
        GripEstates nobody = new GripEstates();
        Check.due("nobody", 0, nobody.put(-1));
        Check.refused("nobody", Check.INDEX, nobody, () -> nobody.put(0));
    }
}
