/** Promises 48 to 50: the image, going back to it, and counts. */
public final class ImageTest {
    public static void main(String[] args) {
        noImage();
        goingBack();
        allButTheTape();
        counts();
        Check.end();
    }

    private static GripEstates valley() {
        GripEstates x = Check.of("person age 40 grip 5;person age 20 grip 3 tied;death 30;witnesses 1;heir 0 1;night 9",
            "thing worth 10 size 9 of 0 held 0;thing worth 5 size 2 of 1 cloth 0;crown worth 7 size 1");
        Check.lawIs(x, "grip 2 if open;fail 1");
        return x;
    }

    private static void noImage() {
        GripEstates x = valley();
        x.tie(0, true);
        String before = Check.seen(x);
        Check.due("no image", false, x.back());
        Check.due("nothing happens", before, Check.seen(x));
        Check.due("acts are remembered", 1, x.count(11));
    }

    private static void goingBack() {
        GripEstates x = valley();
        x.nights(3);
        String before = Check.seen(x);
        Check.due("acts", 1, x.count(11));
        x.image();
        Check.due("an image is no act, and changes nothing", before, Check.seen(x));
        x.nights(60);
        x.born(5);
        Check.valley(x, "crown worth 4 size 4;death 100;witnesses 5;night 500");
        Check.lawIs(x, "slip 40");
        x.seed(99);
        x.nights(2);
        Check.due("back", true, x.back());
        x.tie(0, x.person(0, 3) == 1);
        Check.due("as it was, but for acts remembered", before, Check.seen(x));
        x.undo();
        Check.due("none are remembered", false, x.undo());
        x.nights(5);
        Check.due("back again", true, x.back());
        x.heir(0, -1);
        x.image();
        x.heir(0, 1);
        Check.due("back to the newer one", true, x.back());
        Check.due("its heir", -1, x.person(0, 2));
        Check.due("back is no act", 0, x.count(11));
    }

    private static void allButTheTape() {
        GripEstates x = valley();
        x.image();
        Check.valley(x, "death death");
        x.feed(1, 2, 3, 4, 5);
        x.back();
        Check.due("the tape stays", 20, Check.lengthOfTape(x));
        Check.due("fault stays", 6, x.fault());
        GripEstates y = new GripEstates();
        y.image();
        Check.valley(y, "person age 1 grip 1");
        Check.lawIs(y, "grip 1");
        Check.due("back to nobody", true, y.back());
        Check.due("nobody", 0, y.count(0));
        Check.due("no text", 0, y.count(2));
        Check.due("no law", -1, y.count(3));
        for (int n = 1; n <= 12; n++) {
            Check.due("texts again", n, Check.valley(y, ""));
        }
    }

    private static void counts() {
        GripEstates x = valley();
        int[] first = {2, 3, 2, 2, 30, 1, 9, 22, 1, 1, 0, 0};
        for (int what = 0; what < first.length; what++) {
            Check.due("count " + what, first[what], x.count(what));
        }
        x.open(0);
        x.lay(0, 1);
        int[] then = {2, 3, 2, 2, 30, 1, 9, 22, 0, 2, 0, 2};
        for (int what = 0; what < then.length; what++) {
            Check.due("count then " + what, then[what], x.count(what));
        }
        int[] others = {-1, 12, Integer.MIN_VALUE, Integer.MAX_VALUE};
        for (int what : others) {
            Check.due("count " + what, -1, x.count(what));
        }
    }
}
