/** Promises 1 to 3: a new object, and bytes fed and cut. */
public final class TapeTest {
    public static void main(String[] args) {
        aNewObject();
        feeding();
        bytesComeHighestFirst();
        cutting();
        Check.end();
    }

    private static void aNewObject() {
        GripEstates x = new GripEstates();
        int[] counts = {0, 0, 0, -1, 0, 2, 0, 0, 0, 0, 0, 0};
        for (int what = 0; what < counts.length; what++) {
            Check.due("new count " + what, counts[what], x.count(what));
        }
        Check.due("NONE", -1, GripEstates.NONE);
        Check.due("new fault", -1, x.fault());
        Check.due("new living", 0, x.living());
        Check.due("new idle", 0, x.idle());
        Check.due("new crown", 0, x.crown());
        Check.due("new wealth", 0, x.wealth());
        Check.due("new twins", 0, x.twins());
        Check.due("new round", 0, x.round());
        Check.due("new escheat", 0, x.escheat());
        Check.due("new watch", 0, x.watch());
        Check.due("new put", 0, x.put(-1));
        Check.due("new pairs", 0, x.pairs(-1));
        Check.due("new odds", 10000, x.odds(4));
        Check.due("new most", -1, x.most(0));
        Check.due("new undo", false, x.undo());
        Check.due("new back", false, x.back());
        Check.due("new tape", 0, Check.lengthOfTape(x));
        Check.due("new seed", 1, x.seed(9));
        Check.due("a night of nobody", 0, x.nights(1));
        Check.dueOf("new person", Check.INDEX, () -> x.person(0, 0));
        Check.dueOf("new thing", Check.INDEX, () -> x.thing(0, 0));
    }

    private static void feeding() {
        GripEstates x = new GripEstates();
        for (int n = 1; n <= 20; n++) {
            Check.due("feed " + n, 20L * n, x.feed(0, 0, 0, 0, 0));
        }
        Check.due("feed beyond 400", -1, x.feed(0, 0, 0, 0, 0));
        Check.due("none came", false, x.end(401));
        Check.due("400 are there", true, x.end(400));
        Check.due("one cut", true, x.end(399));
        Check.due("still too many", -1, x.feed(0, 0, 0, 0, 0));
        Check.due("room for twenty", true, x.end(380));
        Check.due("feed to 400", 400, x.feed(0, 0, 0, 0, 0));
    }

    private static void bytesComeHighestFirst() {
        GripEstates x = new GripEstates();
        x.feed(0x70657273, 0x6f6e2061, 0x67652034, 0x30206772, 0x69702035);
        Check.due("valley of twenty bytes", 1, Check.answerOf(x::valley));
        Check.due("age", 40, x.person(0, 0));
        Check.due("grip", 5, x.person(0, 1));
        // Bytes above 127 are no signs of their own, and are not taken for others.
        x.feed(0x20202020, 0xe0202020, 0x20202020, 0x20202020, 0x20202020);
        Check.dueOf("a byte of 224", Check.ARGUMENT, x::valley);
        Check.due("its place", 4, x.fault());
        x.feed(-1, 0, 0, 0, 0);
        Check.dueOf("a byte of 255", Check.ARGUMENT, x::valley);
        Check.due("its place", 0, x.fault());
    }

    private static void cutting() {
        GripEstates x = new GripEstates();
        Check.due("end(0) of none", true, x.end(0));
        Check.due("end(1) of none", false, x.end(1));
        Check.due("end(-1)", false, x.end(-1));
        x.feed(0, 0, 0, 0, 0);
        Check.due("end(21)", false, x.end(21));
        Check.due("end(-1) of some", false, x.end(-1));
        Check.due("end(MIN)", false, x.end(Integer.MIN_VALUE));
        Check.due("end(MAX)", false, x.end(Integer.MAX_VALUE));
        Check.due("nothing happened", true, x.end(20));
        Check.due("end(7)", true, x.end(7));
        Check.due("7 alone", false, x.end(8));
        Check.due("feed behind 7", 27, x.feed(0, 0, 0, 0, 0));
        Check.due("end(0)", true, x.end(0));
        Check.due("feed behind 0", 20, x.feed(0, 0, 0, 0, 0));
        // What was cut off does not come back: the text is the first bytes and those fed behind them.
        GripEstates y = new GripEstates();
        y.feed(0x64656174, 0x68203939, 0x39393939, 0x39393939, 0x39393939);
        y.end(7);
        y.feed(0x20202020, 0x20202020, 0x20202020, 0x20202020, 0x20202020);
        Check.due("valley", 1, Check.answerOf(y::valley));
        Check.due("death 9", 9, y.count(4));
    }
}
