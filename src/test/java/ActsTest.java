/** Promises 11 to 19 and 47: acts, what they refuse, and acts undone. */
public final class ActsTest {
    private static final String VALLEY = "person age 40 grip 5;person age 20 grip 3;person age 30 grip 9;witnesses 0;"
        + "thing worth 10 size 5 of 0;thing worth 20 size 6 of 0;thing worth 30 size 1 of 1 held 2;"
        + "thing worth 40 size 2 of 1 cloth 0;crown worth 50 size 1;thing worth 60 size 3 of 1";
    private static final int[] WRONG = {-1, -2, 10, 32, Integer.MIN_VALUE, Integer.MAX_VALUE};

    public static void main(String[] args) {
        laying();
        clearing();
        waking();
        opening();
        swapping();
        heirs();
        tying();
        births();
        gifts();
        undoing();
        twelveAreRemembered();
        undoneIsAllButTheTape();
        Check.end();
    }

    private static GripEstates valley() {
        return Check.of(VALLEY);
    }

    /** The same, but person 2 is dead; its hand let go of thing 2, which is still 1's. */
    private static GripEstates oneDead() {
        GripEstates x = valley();
        Check.lawIs(x, "fail 40 if person>1;fail 40 if person>1;fail 40 if person>1;fail 0");
        x.seed(1);
        // The draw in (b) is 16838, then 5758, 10113, 17515 modulo 100: none below 8 and 4.
        Check.due("one dies", 1, x.nights(1));
        Check.lawIs(x, "");
        Check.due("who lives", 3, x.living());
        Check.due("thing 2 is still 1's", 1, x.thing(2, 2));
        Check.due("and put by", 0, x.thing(2, 3));
        return x;
    }

    private static void laying() {
        GripEstates x = valley();
        Check.due("lay", 1, x.lay(1, 2));
        Check.due("where", 2, x.thing(1, 3));
        Check.due("whose cloth", 2, x.thing(1, 4));
        Check.due("whose it is", 0, x.thing(1, 2));
        Check.due("lay beside another", 2, x.lay(0, 0));
        Check.due("lay beside two", 3, x.lay(5, 0));
        Check.due("the cloth", 41, x.person(0, 9));
        Check.refused("laid already", Check.STATE, x, () -> x.lay(0, 1));
        Check.refused("held", Check.STATE, x, () -> x.lay(2, 1));
        Check.refused("the crown's", Check.STATE, x, () -> x.lay(4, 1));
        for (int n : WRONG) {
            Check.refused("lay thing " + n, Check.INDEX, x, () -> x.lay(n, 0));
            Check.refused("lay for " + n, Check.INDEX, x, () -> x.lay(0, n));
        }
        Check.refused("a person that is not", Check.INDEX, x, () -> x.lay(4, 3));
        GripEstates y = oneDead();
        Check.refused("on a dead one's cloth", Check.STATE, y, () -> y.lay(0, 2));
    }

    private static void clearing() {
        GripEstates x = valley();
        Check.due("clear", 0, x.clear(3));
        Check.due("put by", 0, x.thing(3, 3));
        Check.due("nobody's place", -1, x.thing(3, 4));
        Check.due("still its owner's", 1, x.thing(3, 2));
        Check.refused("cleared already", Check.STATE, x, () -> x.clear(3));
        Check.refused("clear what is held", Check.STATE, x, () -> x.clear(2));
        Check.refused("clear the crown's", Check.STATE, x, () -> x.clear(4));
        for (int n : WRONG) {
            Check.refused("clear " + n, Check.INDEX, x, () -> x.clear(n));
        }
    }

    private static void waking() {
        GripEstates x = valley();
        Check.refused("too large", Check.STATE, x, () -> x.wake(1));
        Check.due("wake", 0, x.wake(0));
        Check.due("in a hand", 1, x.thing(0, 3));
        Check.due("whose", 0, x.thing(0, 4));
        Check.due("held", 0, x.person(0, 5));
        x.tie(0, true);
        Check.refused("a full hand", Check.STATE, x, () -> x.wake(1));
        x.open(0);
        Check.due("too large but for wool", 0, x.wake(1));
        x.open(0);
        Check.refused("held", Check.STATE, x, () -> x.wake(2));
        Check.refused("laid", Check.STATE, x, () -> x.wake(3));
        Check.refused("the crown's", Check.STATE, x, () -> x.wake(4));
        for (int n : WRONG) {
            Check.refused("wake " + n, Check.INDEX, x, () -> x.wake(n));
        }
        Check.due("of just that size", 1, x.wake(5));
    }

    private static void opening() {
        GripEstates x = valley();
        Check.due("open", 2, x.open(2));
        Check.due("put by", 0, x.thing(2, 3));
        Check.due("nobody's place", -1, x.thing(2, 4));
        Check.due("still its owner's", 1, x.thing(2, 2));
        Check.refused("it holds nothing", Check.STATE, x, () -> x.open(2));
        for (int n : WRONG) {
            Check.refused("open " + n, Check.INDEX, x, () -> x.open(n));
        }
        GripEstates y = oneDead();
        Check.refused("a dead one's hand", Check.STATE, y, () -> y.open(2));
    }

    private static void swapping() {
        GripEstates x = valley();
        x.wake(0);
        Check.due("swap", 2, x.swap(0, 2));
        Check.due("held", 2, x.person(0, 5));
        Check.due("held", 0, x.person(2, 5));
        Check.due("its own then", 0, x.thing(2, 2));
        Check.due("its own then", 2, x.thing(0, 2));
        Check.due("swap for nothing", -1, x.swap(0, 1));
        Check.due("nothing", -1, x.person(0, 5));
        Check.due("held", 2, x.person(1, 5));
        Check.due("its own again", 1, x.thing(2, 2));
        Check.due("swap", 0, x.swap(1, 2));
        Check.due("too large, but swapped", 0, x.person(1, 5));
        x.open(1);
        Check.due("acts", 5, x.count(11));
        Check.due("swap nothing for nothing", -1, x.swap(0, 1));
        Check.due("that is an act, too", 6, x.count(11));
        Check.refused("both are one", Check.ARGUMENT, x, () -> x.swap(1, 1));
        for (int n : WRONG) {
            Check.refused("swap " + n, Check.INDEX, x, () -> x.swap(n, 0));
            Check.refused("swap with " + n, Check.INDEX, x, () -> x.swap(0, n));
            Check.refused("swap of one that is not", Check.INDEX, x, () -> x.swap(n, n));
        }
        GripEstates y = oneDead();
        Check.refused("with a dead one", Check.STATE, y, () -> y.swap(0, 2));
        Check.refused("of a dead one", Check.STATE, y, () -> y.swap(2, 0));
        Check.refused("of a dead one with itself", Check.ARGUMENT, y, () -> y.swap(2, 2));
    }

    private static void heirs() {
        GripEstates x = valley();
        Check.due("heir", -1, x.heir(0, 1));
        Check.due("told", 1, x.person(0, 2));
        Check.due("another", 1, x.heir(0, 2));
        Check.due("the same", 2, x.heir(0, 2));
        Check.due("none", 2, x.heir(0, -1));
        Check.due("none again", -1, x.heir(0, -1));
        Check.due("acts", 5, x.count(11));
        Check.refused("itself", Check.ARGUMENT, x, () -> x.heir(1, 1));
        int[] wrong = {-2, 3, 32, Integer.MIN_VALUE, Integer.MAX_VALUE};
        for (int n : wrong) {
            Check.refused("heir of " + n, Check.INDEX, x, () -> x.heir(n, 0));
            Check.refused("heir of " + n + ", none", Check.INDEX, x, () -> x.heir(n, -1));
            Check.refused("heir of " + n + ", itself", Check.INDEX, x, () -> x.heir(n, n));
            Check.refused("heir " + n, Check.INDEX, x, () -> x.heir(0, n));
        }
        Check.refused("heir of nobody", Check.INDEX, x, () -> x.heir(-1, -1));
        GripEstates y = oneDead();
        Check.due("a dead heir", -1, y.heir(0, 2));
        Check.due("a dead one's heir", -1, y.heir(2, 1));
        Check.due("over the dead one", 1, y.person(0, 10));
    }

    private static void tying() {
        GripEstates x = valley();
        Check.due("tie", true, x.tie(0, true));
        Check.due("tied", 1, x.person(0, 3));
        Check.due("the others are not", 0, x.person(1, 3) + x.person(2, 3));
        Check.due("tie again", false, x.tie(0, true));
        Check.due("loose", true, x.tie(0, false));
        Check.due("loose again", false, x.tie(0, false));
        Check.due("loosed", 0, x.person(0, 3));
        for (int n : WRONG) {
            Check.refused("tie " + n, Check.INDEX, x, () -> x.tie(n, true) ? 1 : 0);
        }
        GripEstates y = oneDead();
        Check.due("a dead one", true, y.tie(2, true));
        Check.due("grips of it", 11, y.person(2, 6));
    }

    private static void births() {
        GripEstates x = valley();
        x.tie(2, true);
        Check.due("born", 3, x.born(9));
        int[] child = {0, 9, -1, 0, 1, -1};
        for (int what = 0; what < child.length; what++) {
            Check.due("child " + what, child[what], x.person(3, what));
        }
        int[] wrong = {-1, 10, Integer.MIN_VALUE, Integer.MAX_VALUE};
        for (int n : wrong) {
            Check.refused("born of grip " + n, Check.ARGUMENT, x, () -> x.born(n));
        }
        Check.due("born", 4, x.born(0));
        Check.due("born", 5, x.born(1));
        Check.due("born", 6, x.born(2));
        Check.refused("an eighth", Check.STATE, x, () -> x.born(3));
        Check.refused("an eighth of no grip", Check.ARGUMENT, x, () -> x.born(10));
        Check.due("undone", true, x.undo());
        Check.due("six", 6, x.count(0));
        Check.dueOf("there is no seventh", Check.INDEX, () -> x.person(6, 0));
        Check.due("born again", 6, x.born(7));
        Check.due("another one", 7, x.person(6, 1));
    }

    private static void gifts() {
        GripEstates x = valley();
        Check.due("give", 0, x.give(1, 2));
        Check.due("whose", 2, x.thing(1, 2));
        Check.due("still put by", 0, x.thing(1, 3));
        Check.due("give back", 2, x.give(1, 0));
        Check.refused("to its owner", Check.STATE, x, () -> x.give(1, 0));
        Check.refused("held", Check.STATE, x, () -> x.give(2, 0));
        Check.refused("laid", Check.STATE, x, () -> x.give(3, 2));
        Check.refused("the crown's", Check.STATE, x, () -> x.give(4, 0));
        for (int n : WRONG) {
            Check.refused("give " + n, Check.INDEX, x, () -> x.give(n, 0));
            Check.refused("give to " + n, Check.INDEX, x, () -> x.give(4, n));
        }
        GripEstates y = oneDead();
        Check.refused("to a dead one", Check.STATE, y, () -> y.give(0, 2));
    }

    private static void undoing() {
        GripEstates x = valley();
        Check.due("nothing to undo", false, x.undo());
        String[] seen = new String[12];
        for (int i = 0; i < seen.length; i++) {
            seen[i] = Check.seen(x);
            act(x, i);
            Check.due("acts remembered", i + 1, x.count(11));
        }
        for (int i = seen.length - 1; i >= 0; i--) {
            Check.due("undo " + i, true, x.undo());
            Check.due("as ahead of act " + i, seen[i], Check.seen(x));
            Check.due("acts left", i, x.count(11));
        }
        Check.due("no more", false, x.undo());
        Check.due("nothing happened", seen[0], Check.seen(x));
    }

    private static void act(GripEstates x, int which) {
        switch (which) {
            case 0: x.lay(0, 1);
                break;
            case 1: x.clear(3);
                break;
            case 2: x.wake(5);
                break;
            case 3: x.open(2);
                break;
            case 4: x.swap(1, 2);
                break;
            case 5: x.heir(0, 2);
                break;
            case 6: x.tie(2, true);
                break;
            case 7: x.born(4);
                break;
            case 8: x.give(1, 3);
                break;
            case 9: x.nights(60);
                break;
            case 10: x.tie(2, true);
                break;
            default: x.nights(1);
        }
    }

    private static void twelveAreRemembered() {
        GripEstates x = valley();
        for (int i = 0; i < 30; i++) {
            x.heir(0, i % 2 + 1);
            x.tie(1, i % 3 == 0);
        }
        Check.due("acts remembered", 12, x.count(11));
        for (int i = 0; i < 12; i++) {
            Check.due("undo", true, x.undo());
        }
        Check.due("a thirteenth", false, x.undo());
        Check.due("as 12 acts ago", 2, x.person(0, 2));
        Check.due("as 12 acts ago", 0, x.person(1, 3));
        x.tie(1, true);
        Check.due("an act more", 1, x.count(11));
        Check.due("undone", true, x.undo());
        Check.due("not more than that", false, x.undo());
    }

    private static void undoneIsAllButTheTape() {
        GripEstates x = valley();
        x.seed(77);
        x.tie(0, true);
        x.seed(5);
        x.image();
        x.feed(0, 0, 0, 0, 0);
        Check.due("undone", true, x.undo());
        Check.due("the tape stays", true, x.end(20));
        Check.due("the seed is as ahead of it", 77, x.seed(3));
        Check.due("the image stays", true, x.back());
        Check.due("tied in the image", 1, x.person(0, 3));
        Check.due("the image's seed", 5, x.seed(5));
        Check.due("going back: none are remembered", false, x.undo());
        Check.valley(x, "wrong");
        Check.due("fault", 0, x.fault());
        x.tie(0, false);
        x.undo();
        Check.due("fault stays", 0, x.fault());
        Check.refused("nights that are none are no act", Check.ARGUMENT, x, () -> x.nights(0));
    }
}
