import java.util.Random;

/** Promises 4 to 6 on texts that chance has spoilt: the first wrong byte is the grammar's, and of wrong texts nothing stays. */
public final class WildTextTest {
    private static final int TEXTS = 60000;
    private static final String VALLEY = "person age 4 grip 5;person age 2 grip 3;person age 1 grip 1;thing worth 3 size 3 of 0 held 1";
    private static final String[] WORDS = {"person", "age", "grip", "heir", "tied", "thing", "worth", "size", "of", "held",
        "cloth", "crown", "death", "witnesses", "night", "slip", "fail", "if", "or", "and", "not", "open", "alone", "hand",
        "owns", "laid", ";", "(", ")", "+", "<", ">", "0", "1", "2", "6", "7", "12", "13", "40", "41", "99", "100", "101",
        "999", "1000", "x", "Tied", "=", "-", "\u00e9", "\0"};

    private final Random chance = new Random(7);
    private int right = 0;
    private int wrong = 0;

    public static void main(String[] args) {
        WildTextTest test = new WildTextTest();
        for (int i = 0; i < TEXTS; i++) {
            test.spoilt(i % 2 == 0);
        }
        for (int i = 0; i < TEXTS / 10; i++) {
            test.words();
            test.tapeOfBytes();
        }
        Check.due("both came about", true, test.right > 1000 && test.wrong > 1000);
        Check.end();
    }

    /** Three people, of whom 2 is dead, and a thing that 1 holds. */
    private static GripEstates valley() {
        GripEstates x = Check.of(VALLEY);
        Edges.die(x, "person > 1", 1);
        return x;
    }

    private static Grammar grammar(String text) {
        Grammar g = new Grammar(text);
        g.person(true, false);
        g.person(true, true);
        g.person(false, false);
        g.thing();
        return g;
    }

    private void spoilt(boolean law) {
        GripEstates x = valley();
        Model m = new Model();
        m.addPerson(4, 5, -1, false);
        m.addPerson(2, 3, -1, false);
        m.addPerson(1, 1, -1, false);
        m.people.get(2).living = false;
        m.addThing(3, 3, 0, 1, -1);
        Texts texts = new Texts(chance);
        StringBuilder text = new StringBuilder(law ? texts.law(m) : texts.valley(m, 1 + chance.nextInt(14)));
        int changes = chance.nextInt(3);
        for (int i = 0; i < changes && text.length() > 0; i++) {
            int at = chance.nextInt(text.length());
            String word = WORDS[chance.nextInt(WORDS.length)];
            switch (chance.nextInt(4)) {
                case 0: text.deleteCharAt(at);
                    break;
                case 1: text.insert(at, word);
                    break;
                case 2: text.insert(at, " " + word + " ");
                    break;
                default: text.setLength(at);
            }
        }
        text.setLength(Math.min(400, text.length()));
        read(x, text.toString(), law);
    }

    private void words() {
        StringBuilder text = new StringBuilder();
        int many = chance.nextInt(12);
        for (int i = 0; i < many; i++) {
            text.append(WORDS[chance.nextInt(WORDS.length)]).append(chance.nextInt(3) > 0 ? " " : "");
        }
        read(valley(), text.toString(), chance.nextBoolean());
    }

    private void tapeOfBytes() {
        GripEstates x = new GripEstates();
        int[] bytes = new int[chance.nextInt(400)];
        StringBuilder text = new StringBuilder();
        for (int i = 0; i < bytes.length; i++) {
            bytes[i] = chance.nextInt(256);
            text.append((char) bytes[i]);
        }
        boolean law = chance.nextBoolean();
        Check.tape(x, bytes);
        long answer = Check.answerOf(law ? x::law : x::valley);
        int fault = law ? new Grammar(text.toString()).law() : new Grammar(text.toString()).valley();
        Check.due("bytes by chance", fault >= 0, answer == Check.ARGUMENT);
        Check.due("their fault", fault, x.fault());
    }

    private void read(GripEstates x, String text, boolean law) {
        String before = Check.seen(x);
        Check.text(x, text);
        long answer = Check.answerOf(law ? x::law : x::valley);
        Check.due("fault of " + text, law ? grammar(text).law() : grammar(text).valley(), x.fault());
        Check.due("the tape is used up", false, x.end(1));
        if (answer != Check.ARGUMENT) {
            Check.due("right: " + text, true, answer < Check.INDEX && x.fault() == -1);
            right++;
            return;
        }
        wrong++;
        Check.due("nothing stays of " + text, before, Check.seen(x));
        faultIsFirst(text, x.fault(), law);
    }

    /**
     * What stands ahead of the first wrong byte can go on: cut there, it is right, or wrong at its end alone.
     * And the wrong thing begins there: it is no blank, and no middle of a word or a number.
     */
    private void faultIsFirst(String text, int fault, boolean law) {
        Check.due("fault within " + text, true, fault >= 0 && fault <= text.length());
        if (fault < text.length()) {
            Check.due("no blank at " + fault + " of " + text, true, text.charAt(fault) != ' ');
        }
        if (fault > 0 && fault < text.length()) {
            boolean within = kind(text.charAt(fault)) > 0 && kind(text.charAt(fault)) == kind(text.charAt(fault - 1));
            Check.due("a begin at " + fault + " of " + text, false, within);
        }
        GripEstates y = valley();
        String ahead = text.substring(0, fault);
        Check.text(y, ahead);
        long answer = Check.answerOf(law ? y::law : y::valley);
        Check.due("right ahead of " + fault + ": " + ahead, true,
            answer < Check.INDEX || y.fault() == fault);
    }

    private static int kind(char c) {
        return c >= 'a' && c <= 'z' ? 1 : c >= '0' && c <= '9' ? 2 : 0;
    }
}
