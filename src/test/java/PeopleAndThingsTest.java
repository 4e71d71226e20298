/** Promises 7 to 9: what is so of a person, of a thing, and how likely a hand shuts on it. */
public final class PeopleAndThingsTest {
    public static void main(String[] args) {
        wrongInputs();
        holdingAndOwning();
        gripsAndFails();
        successors();
        estates();
        lines();
        hangs();
        hoped();
        cores();
        shares();
        shutting();
        Check.end();
    }

    private static GripEstates three(String more) {
        return Check.of("person age 40 grip 5;person age 20 grip 3;person age 30 grip 9" + more);
    }

    private static void persons(String name, GripEstates x, int what, int... values) {
        for (int p = 0; p < values.length; p++) {
            Check.due(name + ", person " + p + " what " + what, values[p], x.person(p, what));
        }
    }

    private static void wrongInputs() {
        GripEstates x = three(";thing worth 5 size 5 of 0");
        int[] nobody = {-1, 3, 7, Integer.MIN_VALUE, Integer.MAX_VALUE, 32, -2};
        for (int p : nobody) {
            Check.refused("person " + p, Check.INDEX, x, () -> x.person(p, 0));
            Check.refused("person " + p + " and a wrong what", Check.INDEX, x, () -> x.person(p, 99));
            Check.refused("shuts of person " + p, Check.INDEX, x, () -> x.shuts(p, 0));
        }
        int[] nothing = {-1, 1, 10, Integer.MIN_VALUE, Integer.MAX_VALUE, 32};
        for (int t : nothing) {
            Check.refused("thing " + t, Check.INDEX, x, () -> x.thing(t, 0));
            Check.refused("thing " + t + " and a wrong what", Check.INDEX, x, () -> x.thing(t, 99));
            Check.refused("shuts of thing " + t, Check.INDEX, x, () -> x.shuts(0, t));
        }
        int[] whats = {-1, 18, Integer.MIN_VALUE, Integer.MAX_VALUE};
        for (int what : whats) {
            Check.refused("person what " + what, Check.ELEMENT, x, () -> x.person(2, what));
            Check.refused("thing what " + what, Check.ELEMENT, x, () -> x.thing(0, what));
        }
        Check.refused("thing what 5", Check.ELEMENT, x, () -> x.thing(0, 5));
    }

    private static void holdingAndOwning() {
        GripEstates x = three(";thing worth 5 size 5 of 0 held 1;thing worth 6 size 1 of 0 cloth 2;"
            + "thing worth 7 size 2 of 2 cloth 2;thing worth 8 size 3 of 2;crown worth 9 size 4");
        persons("holding", x, 5, -1, 0, -1);
        persons("owning", x, 8, 3, 0, 12);
        persons("cloth", x, 9, 0, 0, 6);
        int[][] things = {{5, 5, 0, 1, 1}, {6, 1, 0, 2, 2}, {7, 2, 2, 2, 2}, {8, 3, 2, 0, -1}, {9, 4, -1, 0, -1}};
        for (int t = 0; t < things.length; t++) {
            for (int what = 0; what < 5; what++) {
                Check.due("thing " + t + " what " + what, things[t][what], x.thing(t, what));
            }
        }
    }

    private static void gripsAndFails() {
        GripEstates x = three(";death 10;thing worth 1 size 4 of 0 held 0");
        persons("grips", x, 6, 5, 3, 9);
        persons("fails", x, 7, 18, 14, 16);
        x.tie(1, true);
        persons("grips of a tied one", x, 6, 5, 5, 9);
        Check.lawIs(x, "slip 8; grip 2 if size>3; fail 40 if age>29; fail 40 if age > 39; fail 3 if tied");
        persons("grips by law", x, 6, 0, 0, 1);
        persons("fails by law", x, 7, 98, 17, 56);
        Check.lawIs(x, "grip 40;grip 40;fail 40; fail 40; fail 2 if age > 39");
        persons("grips by law", x, 6, 85, 85, 89);
        persons("fails by law", x, 7, 100, 94, 96);
        GripEstates y = Check.of("person age 4 grip 0;person age 5 grip 0;person age 99 grip 0");
        persons("age by 5", y, 7, 0, 1, 19);
    }

    private static void successors() {
        GripEstates x = three(";heir 0 1;heir 1 2;heir 2 0");
        persons("a round of the living", x, 10, 1, 2, 0);
        Check.due("witnesses 3", 2, Check.valley(x, "witnesses 3"));
        persons("too few others", x, 10, -1, -1, -1);
        Check.due("witnesses 2", 3, Check.valley(x, "witnesses 2;person age 1 grip 1 heir 2"));
        persons("four", x, 10, 1, 2, 0, 2);
        x.heir(2, -1);
        persons("an end", x, 10, 1, 2, -1, 2);
        // Person 1 dies alone: by law it fails surely, the others not at all.
        GripEstates y = Check.of("person age 0 grip 5;person age 0 grip 3;person age 0 grip 9;person age 0 grip 1;"
            + "heir 0 1;heir 1 0;heir 2 1;heir 3 1;witnesses 0");
        Edges.die(y, "person > 0 and person < 2", 1);
        persons("round by a dead one to itself; dead; over it; over it", y, 10, -1, 0, 0, 0);
        y.heir(1, 3);
        persons("over the dead one", y, 10, 3, 3, 3, -1);
        y.heir(1, 1 - 2);
        persons("the dead one's line ends", y, 10, -1, -1, -1, -1);
        Edges.die(y, "person < 1", 1);
        y.heir(0, 1);
        y.heir(1, 0);
        persons("round among the dead", y, 10, -1, -1, -1, -1);
        y.heir(0, 2);
        persons("out of the round", y, 10, 2, 2, -1, 2);
        Check.due("witnesses 2", 2, Check.valley(y, "witnesses 2"));
        persons("two others live for the dead, one for each living one", y, 10, 2, 2, -1, -1);
    }

    private static void estates() {
        GripEstates x = three(";heir 0 1;thing worth 30 size 5 of 0 held 0;thing worth 8 size 1 of 0;"
            + "thing worth 50 size 1 of 0 held 1;thing worth 9 size 1 of 2 held 2");
        persons("estates", x, 11, 30, 0, 0);
        persons("lost", x, 12, 58, 0, 9);
        x.heir(0, -1);
        persons("estates without an heir", x, 11, 0, 0, 0);
        persons("lost without an heir", x, 12, 88, 0, 9);
        x.heir(2, 0);
        persons("estates", x, 11, 0, 0, 9);
        persons("lost", x, 12, 88, 0, 0);
        Edges.die(x, "person > 1", 1);
        persons("estates, one dead", x, 11, 0, 0, 0);
        persons("lost, one dead", x, 12, 97, 0, 0);
        Check.due("it came to the heir", 0, x.thing(3, 2));
        x.heir(0, 1);
        persons("too few others live", x, 11, 0, 0, 0);
    }

    private static void lines() {
        GripEstates x = Check.of("person age 0 grip 1;person age 0 grip 1 heir 0;person age 0 grip 1 heir 1;"
            + "person age 0 grip 1;person age 0 grip 1 heir 3");
        persons("lines", x, 13, 0, 1, 3, 0, 8);
        x.heir(0, 2);
        persons("round to itself", x, 13, 7, 7, 7, 0, 8);
        x.heir(3, 0);
        persons("into a round", x, 13, 7, 7, 7, 7, 15);
        Edges.die(x, "person > 0 and person < 2", 1);
        persons("the dead are in it", x, 13, 7, 7, 7, 7, 15);
    }

    private static void hangs() {
        GripEstates x = Check.of("person age 0 grip 1;person age 0 grip 1 heir 0;person age 0 grip 1 heir 0;"
            + "person age 0 grip 1 heir 2");
        persons("hangs", x, 14, 6, 0, 8, 0);
        Edges.die(x, "person > 1 and person < 3", 1);
        persons("hangs over a dead one", x, 14, 10, 0, 0, 0);
    }

    private static void hoped() {
        GripEstates x = three(";thing worth 10 size 5 of 0 cloth 0;thing worth 21 size 6 of 0 cloth 0;"
            + "thing worth 3 size 1 of 1 cloth 0;thing worth 1 size 4 of 1 cloth 1");
        persons("hoped", x, 15, 433, 0, 0);
        x.tie(0, true);
        persons("hoped, tied", x, 15, 1133, 0, 0);
        Check.due("a thing in the hand", 2, Check.valley(x, "thing worth 1 size 1 of 0 held 0"));
        persons("hoped of a full hand", x, 15, 0, 0, 0);
    }

    /** All like the same order of worth, and nobody what is worth less than its own: so each ends with its own. */
    private static void cores() {
        GripEstates x = Check.of("person age 0 grip 5;person age 0 grip 5;person age 0 grip 5;person age 0 grip 2;"
            + "person age 0 grip 9;thing worth 10 size 3 of 0 held 0;thing worth 20 size 5 of 0 held 1;"
            + "thing worth 30 size 6 of 0 held 2;thing worth 40 size 2 of 0 held 3;thing worth 99 size 1 of 0;"
            + "thing worth 98 size 1 of 4 cloth 0");
        persons("core", x, 16, 0, 1, 2, 3, -1);
        Check.lawIs(x, "grip 1 if person < 1;slip 4 if person > 1 and person < 3");
        persons("core, its own however large", x, 16, 0, 1, 2, 3, -1);
        x.swap(0, 3);
        persons("core once swapped", x, 16, 3, 1, 2, 0, -1);
        x.swap(0, 4);
        persons("core of another holder", x, 16, -1, 1, 2, 0, 3);
        Check.due("nothing is swapped by that", 3, x.person(4, 5));
        Check.due("nothing is owned by that", 0, x.thing(1, 2));
        GripEstates y = Check.of("person age 0 grip 4;person age 0 grip 4;thing worth 5 size 2 of 0 held 1;"
            + "thing worth 5 size 4 of 1 held 0");
        persons("of like worth", y, 16, 1, 0);
        Edges.die(x, "person > 3", 1);
        persons("core of a dead one, and of those that let go", x, 16, -1, 1, -1, -1, -1);
    }

    private static void shares() {
        GripEstates x = three("");
        persons("shares of nothing", x, 17, 0, 0, 0);
        GripEstates y = three(";thing worth 10 size 5 of 0 cloth 1;thing worth 21 size 6 of 1 held 0;crown worth 5 size 1");
        persons("shares", y, 17, 27, 58, 0);
        GripEstates z = three(";thing worth 0 size 5 of 0");
        persons("shares of no worth", z, 17, 0, 0, 0);
        GripEstates one = three(";thing worth 1 size 5 of 1;thing worth 0 size 1 of 0");
        persons("all that there is", one, 17, 0, 100, 0);
    }

    private static void shutting() {
        GripEstates x = three(";thing worth 10 size 5 of 0 cloth 0;thing worth 21 size 6 of 0 cloth 0;"
            + "thing worth 3 size 1 of 1 cloth 0;thing worth 1 size 3 of 1 cloth 1;thing worth 1 size 1 of 0");
        int[][] odds = {{3333, 0, 3333, 0, 0}, {0, 0, 0, 10000, 0}, {0, 0, 0, 0, 0}};
        for (int p = 0; p < 3; p++) {
            for (int t = 0; t < 5; t++) {
                Check.due("shuts " + p + " " + t, odds[p][t], x.shuts(p, t));
            }
        }
        x.wake(4);
        Check.due("shuts of a full hand", 0, x.shuts(0, 0));
        Check.due("another's is as it was", 10000, x.shuts(1, 3));
    }
}
