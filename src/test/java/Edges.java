import java.nio.file.Files;
import java.nio.file.Path;

/** What the tests of the document's edges share: its sentences, wrong texts with their places, deaths and draws. */
final class Edges {
    static final int MIN = Integer.MIN_VALUE;
    static final int MAX = Integer.MAX_VALUE;

    /** Numbers far from all that there is. */
    static final int[] FAR = {MIN, MIN + 1, -65536, -2, 32, 33, 64, 65536, MAX - 1, MAX};

    private static String document = "";
    private static int place = 0;

    private Edges() {
    }

    /** What comes is tested of this sentence, which stands in the document, not ahead of the one before. */
    static void says(String sentence) {
        Check.about(sentence);
        int found = document().indexOf(sentence, place);
        Check.due("the document says so, behind the sentence before", true, found >= 0);
        place = Math.max(place, found);
    }

    private static String document() {
        if (document.isEmpty()) {
            try {
                document = Files.readString(Path.of("../shared/DOC.md")).replaceAll("\\s+", " ");
            } catch (java.io.IOException e) {
                Check.due("the document is there: " + e, true, false);
                document = " ";
            }
        }
        return document;
    }

    /** So many people, of age 0 and grip 5: by age alone none of them can die in the first 49 nights. */
    static GripEstates people(int many) {
        return Check.of(peopleText(many));
    }

    static String peopleText(int many) {
        return "person age 0 grip 5" + ";person age 0 grip 5".repeat(many - 1);
    }

    static long told(GripEstates x, String text) {
        return Check.valley(x, text);
    }

    /** A right text, told behind those that there are. */
    static void tell(GripEstates x, String text) {
        int texts = x.count(2);
        Check.due("valley " + text, texts + 1, Check.valley(x, text));
    }

    /** A text of the valley whose first wrong byte is where the @ stands, which is no part of it. */
    static void wrongValley(GripEstates x, String marked) {
        wrong(x, marked, x::valley);
    }

    static void wrongLaw(GripEstates x, String marked) {
        wrong(x, marked, x::law);
    }

    private static void wrong(GripEstates x, String marked, Check.Call call) {
        Check.text(x, marked.replace("@", ""));
        Check.refused(marked, Check.ARGUMENT, x, call);
        Check.due("fault of " + marked, marked.indexOf('@'), x.fault());
        Check.due("the tape is used up", 0, Check.lengthOfTape(x));
    }

    /** Those of whom the condition holds die in a night, and nobody else; the law is an empty one then. */
    static void die(GripEstates x, String who, int many) {
        Check.lawIs(x, "fail 40 if " + who + ";fail 40 if " + who + ";fail 40 if " + who);
        Check.due("who die", many, x.nights(1));
        Check.lawIs(x, "");
    }

    static int nextSeed(int seed) {
        long next = (1103515245L * seed + 12345L) & 0xffffffffL;
        return (int) next;
    }

    static int draw(int nextSeed) {
        return (int) (((nextSeed & 0xffffffffL) >> 16) % 32768);
    }

    /** A seed of which the next draws are these modulo that. */
    static int seedOf(int modulo, int... rests) {
        for (int seed = 0; seed < 10000000; seed++) {
            if (draws(seed, modulo, rests)) {
                return seed;
            }
        }
        Check.due("there is such a seed", true, false);
        return 0;
    }

    private static boolean draws(int seed, int modulo, int... rests) {
        int next = seed;
        for (int rest : rests) {
            next = nextSeed(next);
            if (draw(next) % modulo != rest) {
                return false;
            }
        }
        return true;
    }

    /** A seed of which so many draws kill nobody whose FAILS are 50 at most. */
    static int calmSeed(int draws) {
        for (int seed = 0; seed < 10000000; seed++) {
            int next = seed;
            int calm = 0;
            while (calm < draws && draw(nextSeed(next)) % 100 >= 50) {
                next = nextSeed(next);
                calm++;
            }
            if (calm == draws) {
                return seed;
            }
        }
        Check.due("there is such a seed", true, false);
        return 0;
    }

    static int seedAfter(int seed, int draws) {
        int next = seed;
        for (int i = 0; i < draws; i++) {
            next = nextSeed(next);
        }
        return next;
    }

    static int seedNow(GripEstates x) {
        int seed = x.seed(0);
        x.seed(seed);
        return seed;
    }

    static void person(GripEstates x, int what, int... values) {
        for (int p = 0; p < values.length; p++) {
            Check.due("person " + p + " what " + what, values[p], x.person(p, what));
        }
    }

    static void thing(GripEstates x, int what, int... values) {
        for (int t = 0; t < values.length; t++) {
            Check.due("thing " + t + " what " + what, values[t], x.thing(t, what));
        }
    }

    static void row(GripEstates x, int ago, int... row) {
        for (int what = 0; what < row.length; what++) {
            Check.due("row " + ago + " what " + what, row[what], x.log(ago, what));
        }
    }
}
