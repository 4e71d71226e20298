/** Promises 5 and 6: texts of the law, what their lines mean, and the first wrong byte. */
public final class LawTextTest {
    public static void main(String[] args) {
        lines();
        inPlaceOfTheOneBefore();
        words();
        conditions();
        deep();
        wrongTexts();
        cutShort();
        tooMany();
        nothingStays();
        Check.end();
    }

    private static void lines() {
        GripEstates x = Check.of("person age 42 grip 5;person age 4 grip 1 tied;death 3");
        Check.due("no law", -1, x.count(3));
        Check.due("grips", 5, x.person(0, 6));
        Check.due("grips of a tied one", 3, x.person(1, 6));
        Check.due("fails", 11, x.person(0, 7));
        Check.due("fails of a young one", 3, x.person(1, 7));
        Check.due("law", 4, Check.law(x, "grip 3;slip 2;fail 20;grip 40"));
        Check.due("lines", 4, x.count(3));
        Check.due("grips", 46, x.person(0, 6));
        Check.due("fails", 31, x.person(0, 7));
        Check.due("law", 2, Check.law(x, "slip 5;slip 1"));
        Check.due("grips of nothing at least", 0, x.person(0, 6));
        Check.due("law", 3, Check.law(x, "fail 40;fail 40;fail 40"));
        Check.due("fails of 100 at most", 100, x.person(0, 7));
        Check.due("fault", -1, x.fault());
    }

    private static void inPlaceOfTheOneBefore() {
        GripEstates x = Check.of("person age 40 grip 5");
        Check.lawIs(x, "grip 3");
        Check.due("grips", 8, x.person(0, 6));
        Check.lawIs(x, "slip 1");
        Check.due("grips", 4, x.person(0, 6));
        Check.due("an empty law", 0, Check.law(x, ""));
        Check.due("lines of an empty one", 0, x.count(3));
        Check.due("grips", 5, x.person(0, 6));
        Check.due("a law of blanks", 0, Check.law(x, "   "));
        Check.due("texts of the valley", 1, x.count(2));
        x.tie(0, true);
        Check.lawIs(x, "grip 1");
        Check.due("none are remembered", 0, x.count(11));
    }

    /** Each word once, by what makes it more or less. */
    private static void words() {
        GripEstates x = Check.of("person age 40 grip 5;person age 33 grip 7 tied;"
            + "person age 9 grip 0;heir 1 2;thing worth 5 size 6 of 1 held 1;thing worth 5 size 3 of 1 cloth 0;"
            + "thing worth 5 size 3 of 2 cloth 0;thing worth 5 size 3 of 1;night 345");
        holds(x, "person", new int[] {0, 1, 2});
        holds(x, "age", new int[] {40, 33, 9});
        holds(x, "hand", new int[] {5, 7, 0});
        holds(x, "owns", new int[] {0, 3, 1});
        holds(x, "laid", new int[] {2, 0, 0});
        holds(x, "size", new int[] {0, 6, 0});
        holds(x, "night", new int[] {45, 45, 45});
        holds(x, "100+person+age+1", new int[] {141, 135, 112});
        holds(x, "hand + hand+ size", new int[] {10, 20, 0});
        isSo(x, "open", 5);
        isSo(x, "tied", 2);
        isSo(x, "alone", 5);
        x.heir(0, 1);
        isSo(x, "alone", 4);
        x.open(1);
        isSo(x, "open", 7);
        Check.due("more witnesses", 2, Check.valley(x, "witnesses 3"));
        isSo(x, "alone", 7);
    }

    private static void holds(GripEstates x, String sum, int[] values) {
        for (int p = 0; p < values.length; p++) {
            isSo(x, sum + ">" + (values[p] - 1 < 0 ? "0" : values[p] - 1) + " and person<" + (p + 1)
                + " and not person < " + p, values[p] > 0 ? 1 << p : 0);
            isSo(x, values[p] + " < " + sum + " and not person<" + p + " and not person>" + p, 0);
            isSo(x, sum + "<" + (values[p] + 1) + " and not person<" + p + " and not person>" + p, 1 << p);
            isSo(x, sum + "<" + values[p] + " and not person<" + p + " and not person>" + p, 0);
        }
    }

    private static void conditions() {
        GripEstates x = Check.of("person age 10 grip 0;person age 20 grip 0 tied;person age 30 grip 0;person age 40 grip 0 tied");
        isSo(x, "tied", 10);
        isSo(x, "not tied", 5);
        isSo(x, "not not tied", 10);
        isSo(x, "age>15 and age<35", 6);
        isSo(x, "age<15 or age>35", 9);
        isSo(x, "age<15 or age>35 and tied", 9);
        isSo(x, "tied and age>25 or age<15", 9);
        isSo(x, "age<15 or tied and age<25", 3);
        isSo(x, "(age<15 or tied) and age<25", 3);
        isSo(x, "(age<15 or tied) and age>25", 8);
        isSo(x, "age<15 or tied and age>25", 9);
        isSo(x, "not (age<15 or tied)", 4);
        isSo(x, "not age<15 and tied", 10);
        isSo(x, "not (age<15 and tied)", 15);
        isSo(x, "((tied))", 10);
        isSo(x, "1<2", 15);
        isSo(x, "2<1", 0);
        isSo(x, "1<1 or 1>1", 0);
        isSo(x, "person+1+1>3 and not(person+age<33)and(tied or open)", 8);
        isSo(x, "tied or tied or age>35 or age<15", 11);
        isSo(x, "not tied and not tied and age>15 and age<99", 4);
        isSo(x, "999>998", 15);
        isSo(x, "alone", 15);
        Check.lawIs(x, "grip 1 if tied; grip 2 if age>15; slip 1 if age>35; grip 10");
        int[] grips = {10, 15, 12, 14};
        for (int p = 0; p < 4; p++) {
            Check.due("grips of several lines", grips[p], x.person(p, 6));
        }
    }

    private static void deep() {
        GripEstates x = Check.of("person age 1 grip 0");
        isSo(x, "((((((open))))))", 1);
        isSo(x, "not not not not not not open", 1);
        isSo(x, "not(not(not(open)))", 0);
        isSo(x, "((((((open)))))) and ((((((1<2)))))) or not not not not not not 1<2", 1);
        wrongAt("7 (", "grip 1 if (((((((open)))))))", 16);
        wrongAt("7 not", "grip 1 if not not not not not not not open", 34);
        wrongAt("7 of both", "grip 1 if not(not(not(not open)))", 22);
        wrongAt("7 of both, the ( the last", "grip 1 if (not(not(not(open)))", 22);
        wrongAt("( that nobody shuts", "grip 1 if ((open)", 17);
    }

    private static void wrongTexts() {
        wrongAt("a word that is none", "grab 3", 0);
        wrongAt("no number", "grip", 4);
        wrongAt("no number, blanks", "grip  ", 6);
        wrongAt("41", "grip 41", 5);
        wrongAt("slip 41", "slip 41", 5);
        wrongAt("fail 41", "fail 41", 5);
        wrongAt("four digits", "grip 0001", 5);
        wrongAt("no condition", "grip 1 if", 9);
        wrongAt("a condition without if", "grip 1 open", 7);
        wrongAt("no sign", "grip 1 if age", 13);
        wrongAt("no sign, a line more", "grip 1 if age; grip 1", 13);
        wrongAt("no second sum", "grip 1 if age<", 14);
        wrongAt("a truth in a sum", "grip 1 if age<open", 14);
        wrongAt("a truth in a sum", "grip 1 if age + open < 3", 16);
        wrongAt("a sum of a truth", "grip 1 if open < 3", 15);
        wrongAt("two signs", "grip 1 if 1<2<3", 13);
        wrongAt("no part", "grip 1 if 1+<3", 12);
        wrongAt("a plus first", "grip 1 if +1<3", 10);
        wrongAt("grip is no part", "grip 1 if grip<3", 10);
        wrongAt("a number of four digits in a sum", "grip 1 if 1000<3", 10);
        wrongAt("a number of four digits in a sum", "grip 1 if 3 < 1000", 14);
        wrongAt("no atom behind and", "grip 1 if open and", 18);
        wrongAt("no atom behind or", "grip 1 if open or ;", 18);
        wrongAt("no atom behind not", "grip 1 if not", 13);
        wrongAt("not and", "grip 1 if not and", 14);
        wrongAt("nothing in ()", "grip 1 if ()", 11);
        wrongAt(") too many", "grip 1 if (open))", 16);
        wrongAt("a sum in ()", "grip 1 if (age)<3", 14);
        wrongAt("; within (", "grip 1 if (open;grip 2)", 15);
        wrongAt("equals", "grip 1 if age=3", 13);
        wrongAt("no line behind ;", "grip 1;", 7);
        wrongAt("no line ahead of ;", ";grip 1", 0);
        wrongAt("if twice", "grip 1 if open if tied", 15);
        wrongAt("an else", "grip 1 if open else", 15);
        wrongAt("a line of the valley", "death 3", 0);
        wrongAt("words run together", "grip 1 ifopen", 7);
        wrongAt("words run together", "grip 1 if notopen", 10);
        GripEstates x = new GripEstates();
        Check.due("numbers and signs run together", 1, Check.law(x, "grip1if1<2and(open)or not(2<age+1)"));
    }

    /** Lines cut behind each word: right where they may end, else wrong at the end, or at what comes then. */
    private static void cutShort() {
        cut("grip 1 if open or tied and alone", 2, 4, 6, 8);
        cut("slip 1 if not ( 1 + age < 2 or not tied )", 2, 14);
        cut("fail 1 if 1 < 2 + 3 and person + size > night + laid + owns + hand", 2, 6, 8, 14, 16, 18, 20);
        cut("fail 1 if ( ( open ) )", 2, 8);
    }

    private static void cut(String line, int... right) {
        String[] words = line.split(" ");
        StringBuilder text = new StringBuilder();
        for (int n = 1; n <= words.length; n++) {
            text.append(n == 1 ? "" : " ").append(words[n - 1]);
            boolean may = false;
            for (int r : right) {
                may |= r == n;
            }
            GripEstates x = new GripEstates();
            Check.due("cut: " + text, may ? 1 : Check.ARGUMENT, Check.law(x, text.toString()));
            Check.due("cut, where: " + text, may ? -1 : text.length(), x.fault());
            Check.due("a line more: " + text, may ? 2 : Check.ARGUMENT, Check.law(x, text + ";fail 1"));
            Check.due("a line more, where: " + text, may ? -1 : text.length(), x.fault());
        }
    }

    private static void tooMany() {
        String twelve = "grip 1;".repeat(11) + "grip 2";
        GripEstates x = Check.of("person age 1 grip 1");
        Check.due("12 lines", 12, Check.law(x, twelve));
        Check.due("grips", 14, x.person(0, 6));
        wrongAt("13 lines", twelve + "; slip 3", twelve.length() + 2);
        wrongAt("12 lines and ;", twelve + ";", twelve.length() + 1);
        wrongAt("400 signs", "(".repeat(400), 0);
        String sum = "fail 1 if 0<1" + "+1".repeat(193);
        Check.due("a text of just that many", 399, sum.length());
        Check.due("a long sum", 1, Check.law(x, sum));
        Check.due("it holds", 1, x.person(0, 7));
        String longest = "fail 1 if 1<2" + "or 1<2".repeat(64);
        Check.due("the longest", 397, longest.length());
        Check.due("the longest", 1, Check.law(x, longest));
        Check.due("it holds", 1, x.person(0, 7));
    }

    private static void nothingStays() {
        GripEstates x = Check.of("person age 1 grip 1");
        Check.lawIs(x, "grip 3");
        x.tie(0, true);
        Check.text(x, "grip 9; slip 4 if open; fail");
        Check.refused("a wrong law", Check.ARGUMENT, x, x::law);
        Check.due("where", 28, x.fault());
        Check.due("the tape is used up", 0, Check.lengthOfTape(x));
        Check.due("the law is still there", 6, x.person(0, 6));
        Check.due("acts are remembered", 1, x.count(11));
        Check.lawIs(x, "grip 1");
        Check.due("the tape is used up", 0, Check.lengthOfTape(x));
        Check.due("fault", -1, x.fault());
    }

    /** Of whom the condition holds, as bits. */
    private static void isSo(GripEstates x, String condition, int bits) {
        GripEstates y = x;
        int[] before = new int[y.count(0)];
        Check.lawIs(y, "");
        for (int p = 0; p < before.length; p++) {
            before[p] = y.person(p, 6);
        }
        Check.lawIs(y, "grip 7 if " + condition);
        int got = 0;
        for (int p = 0; p < before.length; p++) {
            got |= y.person(p, 6) == before[p] + 7 ? 1 << p : 0;
        }
        Check.due(condition, bits, got);
    }

    private static void wrongAt(String what, String text, int place) {
        GripEstates x = new GripEstates();
        Check.due(what + ": " + text, Check.ARGUMENT, Check.law(x, text));
        Check.due(what + ", where: " + text, place, x.fault());
        Check.due(what + ", no law", -1, x.count(3));
    }
}
