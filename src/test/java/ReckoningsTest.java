/** Promises 20 to 24 and 32 to 40: what is reckoned of the valley as it is. */
public final class ReckoningsTest {
    private static final int[] NOBODY = {-2, 3, 7, 32, Integer.MIN_VALUE, Integer.MAX_VALUE};

    public static void main(String[] args) {
        hoards();
        hoardsOfSeveral();
        roundsAndEscheats();
        watching();
        putting();
        puttingFirstWay();
        pairing();
        pairingFirstWay();
        resting();
        odds();
        foremost();
        setsOfAll();
        twins();
        Check.end();
    }

    private static GripEstates three(String more) {
        return Check.of("person age 40 grip 5;person age 20 grip 3;person age 30 grip 9" + more);
    }

    private static void hoards() {
        GripEstates x = three(";thing worth 10 size 5 of 0;thing worth 11 size 6 of 0 held 1;thing worth 20 size 10 of 0 cloth 2;"
            + "thing worth 99 size 1 of 1;thing worth 0 size 1 of 0;crown worth 50 size 1");
        Check.due("nothing fits", 0, x.hoard(0, 4, false));
        Check.due("which", 0, x.hoard(0, 4, true));
        Check.due("of just that size", 10, x.hoard(0, 5, false));
        Check.due("which", 1, x.hoard(0, 5, true));
        Check.due("the dearer", 11, x.hoard(0, 9, false));
        Check.due("the large one", 20, x.hoard(0, 10, false));
        Check.due("which", 4, x.hoard(0, 10, true));
        Check.due("two small ones", 21, x.hoard(0, 11, false));
        Check.due("which", 3, x.hoard(0, 11, true));
        Check.due("all of worth", 41, x.hoard(0, 120, false));
        Check.due("which, without what is worth nothing", 7, x.hoard(0, 120, true));
        Check.due("of one thing", 99, x.hoard(1, 1, false));
        Check.due("of nothing", 0, x.hoard(2, 120, false));
        Check.due("room for nothing", 0, x.hoard(1, 0, false));
        int[] wrong = {-1, 121, Integer.MIN_VALUE, Integer.MAX_VALUE};
        for (int w : wrong) {
            Check.refused("hoard of " + w, Check.ARGUMENT, x, () -> x.hoard(0, w, false));
            Check.refused("hoard of " + w, Check.ARGUMENT, x, () -> x.hoard(0, w, true));
            Check.refused("hoard of nobody and " + w, Check.INDEX, x, () -> x.hoard(3, w, true));
        }
        for (int p : NOBODY) {
            Check.refused("hoard of person " + p, Check.INDEX, x, () -> x.hoard(p, 5, false));
        }
        Check.refused("hoard of person -1", Check.INDEX, x, () -> x.hoard(-1, 5, false));
    }

    private static void hoardsOfSeveral() {
        GripEstates x = three(";thing worth 10 size 2 of 0;thing worth 10 size 2 of 0;thing worth 20 size 4 of 0;"
            + "thing worth 20 size 4 of 0;thing worth 10 size 2 of 0");
        Check.due("the least of like ones", 1, x.hoard(0, 2, true));
        Check.due("the fewest, of these the least", 4, x.hoard(0, 4, true));
        Check.due("two, not three, of these the least", 5, x.hoard(0, 6, true));
        Check.due("how much", 30, x.hoard(0, 6, false));
        Check.due("two large ones", 12, x.hoard(0, 8, true));
        Check.due("how much", 40, x.hoard(0, 9, false));
    }

    private static void roundsAndEscheats() {
        GripEstates x = Check.of("person age 0 grip 5;person age 0 grip 5 heir 0;person age 0 grip 5 heir 1;"
            + "person age 0 grip 5");
        Check.due("no round", 0, x.round());
        Check.due("without a successor", 9, x.escheat());
        x.heir(0, 1);
        Check.due("a round of two", 3, x.round());
        Check.due("without a successor", 8, x.escheat());
        x.heir(0, 2);
        Check.due("a round of three", 7, x.round());
        x.heir(3, 0);
        Check.due("into a round is not round", 7, x.round());
        Check.due("all have one", 0, x.escheat());
        Edges.die(x, "person < 2", 2);
        Check.due("the dead go round, too", 7, x.round());
        Check.due("one other alone lives", 12, x.escheat());
        Check.due("one witness", 2, Check.valley(x, "witnesses 1"));
        Check.due("2 comes to itself alone", 4, x.escheat());
        x.heir(1, 3);
        Check.due("2 to 1 to 3", 0, x.escheat());
        Check.due("no round but of 0, 2, 1, 3", 15, x.round());
    }

    private static void watching() {
        GripEstates x = Check.of("person age 0 grip 5;person age 0 grip 5 heir 0;person age 0 grip 5 heir 0;"
            + "person age 0 grip 5;person age 0 grip 5 heir 3");
        Check.due("those who end lines", 9, x.watch());
        x.heir(0, 1);
        x.heir(3, 4);
        Check.due("0 keeps 1 and 2, and either 3 or 4", 9, x.watch());
        x.heir(1, 2);
        x.heir(2, 0);
        Check.due("a round of three needs two", 11, x.watch());
        x.heir(2, 3);
        x.heir(3, 0);
        Check.due("a round of four, and 4 on 3", 10, x.watch());
        Check.due("no witnesses enough", 2, Check.valley(x, "witnesses 5"));
        Check.due("each by itself", 31, x.watch());
        Check.due("witnesses again", 3, Check.valley(x, "witnesses 0"));
        Edges.die(x, "person > 0 and person < 4", 3);
        Check.due("0 has none but itself, 4 has 0", 1, x.watch());
        Edges.die(x, "person < 8", 2);
        Check.due("nobody to be kept", 0, x.watch());
    }

    private static void putting() {
        GripEstates x = three(";thing worth 10 size 4 of 1 held 2;thing worth 20 size 9 of 0;thing worth 30 size 10 of 0;"
            + "crown worth 5 size 1");
        Check.due("how much", 35, x.put(-1));
        Check.due("0 has", 0, x.put(0));
        Check.due("1 has", 3, x.put(1));
        Check.due("2 has", 1, x.put(2));
        for (int p : NOBODY) {
            Check.refused("put " + p, Check.INDEX, x, () -> x.put(p));
        }
        x.tie(2, true);
        Check.due("by wool the largest", 45, x.put(-1));
        Check.due("2 has", 2, x.put(2));
        Check.lawIs(x, "slip 40");
        Check.due("nobody can hold", 0, x.put(-1));
        Check.due("0 has", -1, x.put(0));
        Check.lawIs(x, "");
        Edges.die(x, "person > 1", 1);
        Check.due("the dead hold nothing", 15, x.put(-1));
        Check.due("2 has", -1, x.put(2));
        Check.due("nothing is put by that", 0, x.count(8));
    }

    private static void puttingFirstWay() {
        GripEstates x = Check.of("person age 0 grip 5;person age 0 grip 5;person age 0 grip 5;"
            + "thing worth 0 size 1 of 0;thing worth 10 size 1 of 0;thing worth 10 size 1 of 0");
        Check.due("how much", 20, x.put(-1));
        Check.due("none is the least", -1, x.put(0));
        Check.due("then the first", 1, x.put(1));
        Check.due("then the next", 2, x.put(2));
        GripEstates y = Check.of("person age 0 grip 9;person age 0 grip 3;thing worth 10 size 3 of 0;"
            + "thing worth 10 size 9 of 0;thing worth 9 size 1 of 0");
        Check.due("how much", 20, y.put(-1));
        Check.due("the large one, so that the other has the small one", 1, y.put(0));
        Check.due("the small one", 0, y.put(1));
        GripEstates z = Check.of("person age 0 grip 4;person age 0 grip 4;thing worth 7 size 2 of 0;thing worth 7 size 3 of 0");
        Check.due("by numbers", 0, z.put(0));
        Check.due("by numbers", 1, z.put(1));
    }

    private static void pairing() {
        GripEstates x = three("");
        Check.due("how much", 14, x.pairs(-1));
        Check.due("0 with", 2, x.pairs(0));
        Check.due("1 with", -1, x.pairs(1));
        Check.due("2 with", 0, x.pairs(2));
        x.heir(0, 2);
        Check.due("not with the heir", 12, x.pairs(-1));
        Check.due("0 with", -1, x.pairs(0));
        Check.due("1 with", 2, x.pairs(1));
        Check.due("2 with", 1, x.pairs(2));
        x.heir(2, 1);
        Check.due("not with whose heir one is", 8, x.pairs(-1));
        x.heir(1, 0);
        Check.due("no pair", 0, x.pairs(-1));
        Check.due("0 with", -1, x.pairs(0));
        for (int p : NOBODY) {
            Check.refused("pairs " + p, Check.INDEX, x, () -> x.pairs(p));
        }
        GripEstates y = three("");
        Edges.die(y, "person > 1", 1);
        Check.due("the dead are in none", 8, y.pairs(-1));
        Check.due("2 with", -1, y.pairs(2));
        Check.due("1 with", 0, y.pairs(1));
    }

    private static void pairingFirstWay() {
        GripEstates x = Check.of("person age 0 grip 1;person age 0 grip 1;person age 0 grip 1;person age 0 grip 1");
        int[] four = {1, 0, 3, 2};
        for (int p = 0; p < 4; p++) {
            Check.due("four alike, " + p, four[p], x.pairs(p));
        }
        x.heir(2, 3);
        int[] apart = {2, 3, 0, 1};
        for (int p = 0; p < 4; p++) {
            Check.due("2 and 3 apart, " + p, apart[p], x.pairs(p));
        }
        GripEstates y = Check.of("person age 0 grip 1;person age 0 grip 1;person age 0 grip 1");
        int[] odd = {-1, 2, 1};
        for (int p = 0; p < 3; p++) {
            Check.due("none is the least, " + p, odd[p], y.pairs(p));
        }
        GripEstates z = Check.of("person age 0 grip 0;person age 0 grip 0");
        Check.due("no grip", 0, z.pairs(-1));
        Check.due("none", -1, z.pairs(0));
    }

    private static void resting() {
        GripEstates x = Check.of("person age 0 grip 5;person age 0 grip 4;person age 0 grip 6;person age 0 grip 0;"
            + "heir 0 1;heir 1 0;heir 2 0");
        int[] nothing = {12, 4, 8, 4};
        for (int p = 0; p < 4; p++) {
            Check.due("with nothing, " + p, nothing[p], x.rests(p));
        }
        Check.due("things", 2, Check.valley(x, "thing worth 10 size 1 of 0 held 0;thing worth 9 size 1 of 1 held 1;"
            + "thing worth 10 size 1 of 2;thing worth 10 size 1 of 3"));
        int[] some = {8, 4, 8, 0};
        for (int p = 0; p < 4; p++) {
            Check.due("with something, " + p, some[p], x.rests(p));
        }
        int[] nobody = {-1, 4, 32, Integer.MIN_VALUE, Integer.MAX_VALUE};
        for (int p : nobody) {
            Check.refused("rests " + p, Check.INDEX, x, () -> x.rests(p));
        }
        Edges.die(x, "person > 2", 1);
        Check.due("a dead one has and loses nothing", 4, x.rests(3));
    }

    private static void odds() {
        GripEstates x = three("");
        Check.due("no night", 10000, x.odds(0));
        Check.due("a night", 8302, x.odds(1));
        Check.due("two nights", 6891, x.odds(2));
        int[] wrong = {-1, 5, Integer.MIN_VALUE, Integer.MAX_VALUE};
        for (int n : wrong) {
            Check.refused("odds " + n, Check.ARGUMENT, x, () -> x.odds(n));
        }
        Check.due("four nights", true, x.odds(4) < x.odds(3));
        Edges.die(x, "person < 1", 1);
        Check.due("without the dead one", 9024, x.odds(1));
        Check.due("death", 2, Check.valley(x, "death 100"));
        Check.due("surely not", 0, x.odds(1));
        Check.due("surely not", 0, x.odds(4));
        Check.due("still no night", 10000, x.odds(0));
    }

    private static void foremost() {
        GripEstates x = three(";thing worth 10 size 4 of 1 held 2;thing worth 20 size 9 of 2;crown worth 90 size 9");
        Check.due("oldest", 0, x.most(0));
        Check.due("strongest", 2, x.most(1));
        Check.due("richest", 2, x.most(2));
        Check.lawIs(x, "slip 40 if person > 1");
        Check.due("strongest by law", 0, x.most(1));
        x.tie(1, true);
        Check.due("of several the least", 0, x.most(1));
        x.give(1, 0);
        Check.due("richest", 0, x.most(2));
        int[] wrong = {-1, 3, Integer.MIN_VALUE, Integer.MAX_VALUE};
        for (int what : wrong) {
            Check.refused("most " + what, Check.ELEMENT, x, () -> x.most(what));
            Check.dueOf("most of nobody " + what, Check.ELEMENT, () -> new GripEstates().most(what));
        }
        Edges.die(x, "person < 1", 1);
        Check.due("oldest", 2, x.most(0));
        Check.due("strongest", 2, x.most(1));
        Check.due("richest", 1, x.most(2));
        Edges.die(x, "person < 9", 2);
        for (int what = 0; what < 3; what++) {
            Check.due("nobody lives", -1, x.most(what));
        }
        GripEstates y = three("");
        Check.due("all have nothing", 0, y.most(2));
    }

    private static void setsOfAll() {
        GripEstates x = three(";thing worth 10 size 4 of 1 held 2;thing worth 20 size 9 of 2;crown worth 90 size 9;"
            + "crown worth 7 size 1");
        Check.due("living", 7, x.living());
        Check.due("idle", 3, x.idle());
        Check.due("crown", 12, x.crown());
        Check.due("wealth", 97, x.wealth());
        Edges.die(x, "person < 2", 2);
        Check.due("living", 4, x.living());
        Check.due("the dead are not idle", 4, x.idle());
        Check.due("crown", 13, x.crown());
        Check.due("wealth", 107, x.wealth());
    }

    private static void twins() {
        GripEstates x = three(";thing worth 10 size 4 of 1 held 2;thing worth 10 size 9 of 2;crown worth 10 size 4;"
            + "thing worth 4 size 10 of 1");
        Check.due("one pair", 1, x.twins());
        Check.due("a third alike", 2, Check.valley(x, "thing worth 10 size 4 of 0;crown worth 10 size 9"));
        Check.due("three pairs and one", 4, x.twins());
    }
}
