/** Promises 4 and 6: texts of the valley, right and wrong ones, and the first wrong byte. */
public final class ValleyTextTest {
    private static final String TWO = "person age 40 grip 5;person age 20 grip 3";

    public static void main(String[] args) {
        lines();
        blanks();
        oneBehindAnother();
        bounds();
        wrongTexts();
        cutShort();
        wrongNumbersOfPeople();
        tooMany();
        twelveTexts();
        nothingStays();
        theDeadAreNotTold();
        Check.end();
    }

    private static void lines() {
        GripEstates x = Check.of("person age 40 grip 5;person age 20 grip 3 heir 0 tied;person age 1 grip 9 tied;"
            + "heir 0 2;thing worth 30 size 4 of 0 held 1;thing worth 7 size 12 of 1 cloth 2;"
            + "thing worth 0 size 1 of 2;crown worth 99 size 2;death 17;witnesses 1;night 123");
        int[][] people = {{40, 5, 2, 0, 1}, {20, 3, 0, 1, 1}, {1, 9, -1, 1, 1}};
        for (int p = 0; p < 3; p++) {
            for (int what = 0; what < 5; what++) {
                Check.due("person " + p + " " + what, people[p][what], x.person(p, what));
            }
        }
        int[][] things = {{30, 4, 0, 1, 1}, {7, 12, 1, 2, 2}, {0, 1, 2, 0, -1}, {99, 2, -1, 0, -1}};
        for (int t = 0; t < 4; t++) {
            for (int what = 0; what < 5; what++) {
                Check.due("thing " + t + " " + what, things[t][what], x.thing(t, what));
            }
        }
        int[] counts = {3, 4, 1, -1, 17, 1, 123, 136, 1, 1, 0, 0};
        for (int what = 0; what < counts.length; what++) {
            Check.due("count " + what, counts[what], x.count(what));
        }
        Check.due("fault", -1, x.fault());
    }

    private static void blanks() {
        GripEstates x = new GripEstates();
        Check.due("an empty text", 1, Check.valley(x, ""));
        Check.due("blanks alone", 2, Check.valley(x, "    "));
        Check.due("nobody", 0, x.count(0));
        Check.due("no blanks", 3, Check.valley(x, "person age40grip5tied;person age1grip2heir0;thing worth3size4of1held0"));
        Check.due("many blanks", 4, Check.valley(x, "   person   age  007  grip   9 ;  death  7   "));
        Check.due("people", 3, x.count(0));
        Check.due("held", 0, x.person(0, 5));
        Check.due("age", 7, x.person(2, 0));
        Check.due("heir", 0, x.person(1, 2));
        wrongAt("words run together", "personage 4 grip 5", 0);
        wrongAt("a tab", "death\t1", 5);
        wrongAt("a line's end", "death 1\n", 7);
        wrongAt("a zero byte", "death 1\0", 7);
    }

    private static void oneBehindAnother() {
        GripEstates x = Check.of(TWO, "heir 0 1;death 3", "person age 1 grip 1 heir 1;thing worth 5 size 5 of 2",
            "night 5", "death 4");
        Check.due("people", 3, x.count(0));
        Check.due("heir", 1, x.person(0, 2));
        Check.due("heir", 1, x.person(2, 2));
        Check.due("death", 4, x.count(4));
        Check.due("night", 5, x.count(6));
        Check.due("texts", 5, x.count(2));
    }

    private static void bounds() {
        Check.of("person age 99 grip 9;person age 0 grip 0;thing worth 99 size 12 of 0;thing worth 0 size 1 of 0;"
            + "crown worth 99 size 12;crown worth 0 size 1;death 100;death 0;witnesses 6;witnesses 0;night 999;night 0");
        wrongAt("age 100", "person age 100 grip 5", 11);
        wrongAt("grip 10", "person age 10 grip 10", 19);
        wrongAt("worth 100", TWO + ";thing worth 100 size 1 of 0", 54);
        wrongAt("size 13", TWO + ";thing worth 10 size 13 of 0", 62);
        wrongAt("size 0", TWO + ";thing worth 10 size 0 of 0", 62);
        wrongAt("crown worth 100", "crown worth 100 size 1", 12);
        wrongAt("crown size 13", "crown worth 1 size 13", 19);
        wrongAt("crown size 0", "crown worth 1 size 0", 19);
        wrongAt("death 101", "death 101", 6);
        wrongAt("witnesses 7", "witnesses 7", 10);
        wrongAt("four digits", "night 1000", 6);
        wrongAt("four digits of a small number", "night 0001", 6);
        wrongAt("many digits", "death 00000000000000000000", 6);
    }

    private static void wrongTexts() {
        wrongAt("no line behind ;", "death 1;", 8);
        wrongAt("no line behind ; and blanks", "death 1;  ", 10);
        wrongAt("no line ahead of ;", ";death 1", 0);
        wrongAt("two ;", "death 1;;death 2", 8);
        wrongAt("a word that is none", "  deaths 1", 2);
        wrongAt("a word cut short", "deat", 0);
        wrongAt("a great letter", "Death 1", 0);
        wrongAt("a great letter within", "deaTh 1", 0);
        wrongAt("a number first", "1 death", 0);
        wrongAt("a number is missing", "death", 5);
        wrongAt("a number is missing, blanks", "death  ", 7);
        wrongAt("a word for a number", "death death 1", 6);
        wrongAt("another word's number", "death witnesses 3", 6);
        wrongAt("another word's number", "witnesses night 3", 10);
        wrongAt("two numbers", "death 1 2", 8);
        wrongAt("less than nothing", "death -1", 6);
        wrongAt("no age", "person grip 4", 7);
        wrongAt("no age's number", "person age grip 4", 11);
        wrongAt("no grip", "person age 4", 12);
        wrongAt("no grip, a line more", "person age 4;death 1", 12);
        wrongAt("tied ahead of heir", TWO + ";person age 1 grip 1 tied heir 0", 67);
        wrongAt("tied twice", "person age 1 grip 1 tied tied", 25);
        wrongAt("heir twice", TWO + ";person age 1 grip 1 heir 0 heir 1", 69);
        wrongAt("no size", TWO + ";thing worth 1 of 0", 56);
        wrongAt("no owner", TWO + ";thing worth 1 size 1", 62);
        wrongAt("no owner but a hand", TWO + ";thing worth 1 size 1 held 0", 63);
        wrongAt("held and cloth", TWO + ";thing worth 1 size 1 of 0 held 0 cloth 1", 75);
        wrongAt("cloth and held", TWO + ";thing worth 1 size 1 of 0 cloth 0 held 1", 76);
        wrongAt("held twice", TWO + ";thing worth 1 size 1 of 0 held 0 held 1", 75);
        wrongAt("the crown's is held", TWO + ";crown worth 1 size 1 held 0", 63);
        wrongAt("the crown's is of somebody", TWO + ";crown worth 1 size 1 of 0", 63);
        wrongAt("a line of the law", "grip 3", 0);
        wrongAt("a sign of the law", "death 3 + 4", 8);
        wrongAt("an unknown sign", "death 3 , death 4", 8);
        wrongAt("a number with a letter", "death 3x", 7);
    }

    /** Each line cut behind each of its words: right where it may end, else wrong at the end, or at what comes then. */
    private static void cutShort() {
        cut("person age 1 grip 2 heir 0 tied", 5, 7, 8);
        cut("person age 1 grip 2 tied", 5, 6);
        cut("heir 0 1", 3);
        cut("thing worth 1 size 2 of 0 held 1", 7, 9);
        cut("thing worth 1 size 2 of 0 cloth 1", 7, 9);
        cut("crown worth 1 size 2", 5);
        cut("death 1", 2);
        cut("witnesses 1", 2);
        cut("night 1", 2);
    }

    private static void cut(String line, int... right) {
        String[] words = line.split(" ");
        StringBuilder text = new StringBuilder();
        for (int n = 1; n <= words.length; n++) {
            text.append(n == 1 ? "" : " ").append(words[n - 1]);
            boolean may = false;
            for (int r : right) {
                may |= r == n;
            }
            int place = may ? -1 : text.length();
            GripEstates x = Check.of(TWO);
            Check.due("cut: " + text, may ? 2 : Check.ARGUMENT, Check.valley(x, text.toString()));
            Check.due("cut, where: " + text, place, x.fault());
            GripEstates y = Check.of(TWO);
            Check.due("a line more: " + text, may ? 2 : Check.ARGUMENT, Check.valley(y, text + ";death 1"));
            Check.due("a line more, where: " + text, place, y.fault());
        }
    }

    private static void wrongNumbersOfPeople() {
        wrongAt("heir of a first one", "person age 1 grip 1 heir 0", 25);
        wrongAt("heir of a later one", TWO + ";person age 1 grip 1 heir 2", 67);
        wrongAt("heir line of nobody", TWO + ";heir 2 0", 47);
        wrongAt("heir line to nobody", TWO + ";heir 0 2", 49);
        wrongAt("heir line of itself", TWO + ";heir 1 1", 49);
        wrongAt("heir line of itself, zero", TWO + ";heir 0 0", 49);
        wrongAt("heir line of a word", TWO + ";heir 0 tied", 49);
        wrongAt("heir line of one", TWO + ";heir 0", 48);
        wrongAt("of nobody", TWO + ";thing worth 1 size 1 of 2", 66);
        wrongAt("held by nobody", TWO + ";thing worth 1 size 1 of 0 held 2", 73);
        wrongAt("cloth of nobody", TWO + ";thing worth 1 size 1 of 0 cloth 2", 74);
        wrongAt("a hand that is full", TWO + ";thing worth 1 size 1 of 0 held 1;thing worth 1 size 1 of 0 held 1", 106);
        GripEstates x = Check.of(TWO + ";thing worth 1 size 1 of 0 held 1");
        Check.due("a hand full by an earlier text", Check.ARGUMENT, Check.valley(x, "thing worth 1 size 1 of 0 held 1"));
        Check.due("its place", 31, x.fault());
        Check.due("the other hand", 2, Check.valley(x, "thing worth 1 size 12 of 1 held 0"));
        Check.due("its fault", -1, x.fault());
        Check.due("held though too large, of another", 1, x.person(0, 5));
        Check.due("two on one cloth", 3, Check.valley(x, "thing worth 1 size 1 of 0 cloth 0;thing worth 2 size 1 of 1 cloth 0"));
        Check.due("the cloth", 12, x.person(0, 9));
    }

    private static void tooMany() {
        String fourteen = "death 1;".repeat(13) + "death 2";
        Check.due("14 lines", 2, Check.of(fourteen).count(4));
        wrongAt("15 lines", fourteen + "; death 3", fourteen.length() + 2);
        wrongAt("400 signs", ";".repeat(400), 0);
        wrongAt("400 blanks but one", "death 1" + " ".repeat(392) + "x", 399);
        wrongAt("14 lines and ;", fourteen + "; ", fourteen.length() + 2);
        String seven = "person age 1 grip 1;".repeat(6) + "person age 1 grip 2";
        Check.due("7 people", 7, Check.of(seven).count(0));
        wrongAt("8 people", seven + "; person age 1 grip 1", seven.length() + 2);
        GripEstates x = Check.of(seven);
        Check.due("an 8th by another text", Check.ARGUMENT, Check.valley(x, "death 1;person age 1 grip 1"));
        Check.due("its place", 8, x.fault());
        String ten = "person age 1 grip 1" + ";crown worth 1 size 1".repeat(9) + ";thing worth 1 size 2 of 0";
        GripEstates y = Check.of(ten);
        Check.due("10 things", 10, y.count(1));
        wrongAt("11 things", ten + " ;thing worth 1 size 1 of 0", ten.length() + 2);
        wrongAt("11 things, the crown's", ten + ";crown worth 1 size 1", ten.length() + 1);
        Check.due("an 11th by another text", Check.ARGUMENT, Check.valley(y, " crown worth 1 size 1"));
        Check.due("its place", 1, y.fault());
    }

    private static void twelveTexts() {
        GripEstates x = new GripEstates();
        for (int n = 1; n <= 12; n++) {
            Check.due("text " + n, n, Check.valley(x, n % 2 == 0 ? "death " + n : ""));
        }
        Check.text(x, "death 50");
        Check.refused("a 13th text", Check.UNSUPPORTED, x, x::valley);
        Check.due("the tape is used up", 0, Check.lengthOfTape(x));
        Check.due("fault", -1, x.fault());
        Check.text(x, "death x");
        Check.refused("a 13th text that is wrong", Check.ARGUMENT, x, x::valley);
        Check.due("its place", 6, x.fault());
        Check.text(x, "death 1");
        Check.refused("a 13th text again", Check.UNSUPPORTED, x, x::valley);
        Check.due("it was read", -1, x.fault());
        Check.due("a law may still be read", 1, Check.law(x, "grip 1"));
    }

    private static void nothingStays() {
        GripEstates x = Check.of(TWO);
        x.tie(0, true);
        Check.text(x, "person age 1 grip 1;heir 0 1;thing worth 5 size 5 of 0 held 0;death 50;witnesses 3;night 77;oops");
        Check.refused("a wrong end", Check.ARGUMENT, x, x::valley);
        Check.due("the tape is used up", 0, Check.lengthOfTape(x));
        Check.due("acts are still remembered", 1, x.count(11));
        Check.due("a right text", 2, Check.valley(x, "death 5"));
        Check.due("the tape is used up", 0, Check.lengthOfTape(x));
        Check.due("none are remembered", 0, x.count(11));
        Check.due("nothing to undo", false, x.undo());
        Check.due("fault is of the latest text", -1, x.fault());
    }

    private static void theDeadAreNotTold() {
        GripEstates x = Check.of("person age 1 grip 1;person age 2 grip 2;death 100");
        x.nights(1);
        Check.due("all died", 0, x.living());
        Check.due("text", 2, Check.valley(x, "death 0;person age 3 grip 3"));
        String[] texts = {"death 0;person age 1 grip 1 heir 0", "heir 0 2", "heir 2 1", "thing worth 1 size 1  of   0",
            "thing worth 1 size 1 of 2  held 1", "thing worth 1 size 1 of 2  cloth 0"};
        int[] places = {33, 5, 7, 27, 32, 33};
        for (int i = 0; i < texts.length; i++) {
            Check.due(texts[i], Check.ARGUMENT, Check.valley(x, texts[i]));
            Check.due(texts[i] + ", where", places[i], x.fault());
        }
        Check.due("of the living", 3, Check.valley(x, "thing worth 1 size 1 of 2 held 2"));
    }

    private static void wrongAt(String what, String text, int place) {
        GripEstates x = new GripEstates();
        Check.due(what + ": " + text, Check.ARGUMENT, Check.valley(x, text));
        Check.due(what + ", where", place, x.fault());
        Check.due(what + ", nobody", 0, x.count(0) + x.count(1) + x.count(2));
    }
}
