/** Promises 25 to 31: what is told on the tape. */
public final class ToldTest {
    private static final String VALLEY = "person age 40 grip 5;person age 20 grip 3;person age 30 grip 9;"
        + "thing worth 10 size 5 of 0;thing worth 20 size 5 of 0;thing worth 10 size 6 of 1;crown worth 40 size 5;"
        + "thing worth 0 size 1 of 2";

    public static void main(String[] args) {
        heldAndLikely();
        asking();
        wrongTapesOfThings();
        strengths();
        trying();
        wrongTapesOfSizes();
        fingers();
        opening();
        wrongFingers();
        Check.end();
    }

    private static void held(GripEstates x, int bits, int likely, int... tape) {
        String told = java.util.Arrays.toString(tape);
        Check.tape(x, tape);
        Check.dueOf("held " + told, bits, x::held);
        Check.due("the tape is used up", 0, Check.lengthOfTape(x));
        Check.tape(x, tape);
        Check.dueOf("likely " + told, likely, x::likely);
        Check.due("the tape is used up", 0, Check.lengthOfTape(x));
    }

    private static void heldAndLikely() {
        GripEstates x = Check.of(VALLEY);
        held(x, 31, 3);
        held(x, 31, 0, 0, 10);
        held(x, 31, 3, 0, 99);
        // One row of two is so of 0 (both), of 1 and 3 (the size), of 2 (the worth); of 4 none.
        held(x, 15, 0, 0, 10, 1, 5);
        held(x, 11, 1, 0, 20, 1, 5);
        // All of 3; but for one none else: 0 and 1 have the size alone.
        held(x, 8, 3, 2, 9, 1, 5, 0, 40);
        held(x, 8, 3, 2, 9, 1, 5, 0, 41);
        // One wrong of each of 0 and 1: the dearer is likelier.
        held(x, 3, 1, 1, 5, 2, 0, 0, 50);
        // Of like wrong rows and like worth the least.
        held(x, 5, 0, 0, 10, 0, 10, 1, 7);
        held(x, 0, -1, 0, 1, 0, 2, 0, 3);
        held(x, 16, 4, 2, 2, 1, 1, 0, 0);
        held(x, 16, 4, 2, 2, 2, 2, 2, 99);
        // The same row twice counts twice.
        held(x, 0, -1, 0, 98, 0, 98);
        int[] twenty = new int[40];
        for (int i = 0; i < 40; i += 2) {
            twenty[i] = 1;
            twenty[i + 1] = i == 6 ? 12 : 5;
        }
        held(x, 11, 3, twenty);
        held(new GripEstates(), 0, -1);
        held(new GripEstates(), 0, -1, 0, 10);
        Check.due("fault is not touched", -1, x.fault());
    }

    private static void asked(GripEstates x, int what, int... tape) {
        Check.tape(x, tape);
        Check.dueOf("ask " + java.util.Arrays.toString(tape), what, x::ask);
        Check.due("the tape is used up", 0, Check.lengthOfTape(x));
    }

    private static void asking() {
        GripEstates x = Check.of(VALLEY);
        // Of all five worth parts 2, 1, 1, 1; size 3, 1, 1; owner 2, 1, 1, 1.
        asked(x, 0);
        // Of 0 and 2 worth does not part, size does.
        asked(x, 1, 0, 10, 0, 10, 1, 7);
        // Of 0 and 1 worth does.
        asked(x, 0, 1, 5, 2, 0, 0, 50);
        asked(x, -1, 2, 9, 1, 5, 0, 40);
        asked(x, -1, 0, 1, 0, 2, 0, 3);
        GripEstates y = Check.of("person age 1 grip 1;person age 1 grip 1;thing worth 5 size 5 of 0;thing worth 5 size 5 of 1");
        asked(y, 2);
        GripEstates z = Check.of("person age 1 grip 1;thing worth 5 size 5 of 0;thing worth 5 size 5 of 0");
        asked(z, 0);
        asked(new GripEstates(), -1);
        // The crown is an owner like others.
        GripEstates w = Check.of("person age 1 grip 1;thing worth 5 size 5 of 0;crown worth 5 size 5");
        asked(w, 2);
    }

    private static void refused(String what, GripEstates x, Check.Call call, int... tape) {
        Check.tape(x, tape);
        Check.refused(what + " " + java.util.Arrays.toString(tape), Check.ARGUMENT, x, call);
        Check.due("the tape is used up", 0, Check.lengthOfTape(x));
    }

    private static void wrongTapesOfThings() {
        GripEstates x = Check.of(VALLEY);
        int[][] tapes = {{0}, {0, 1, 2}, {3, 0}, {0, 100}, {255, 0}, {0, 255}, {0, 1, 4, 1}, {128, 1}, {0, 128}, new int[42]};
        for (int[] tape : tapes) {
            refused("held", x, x::held, tape);
            refused("likely", x, x::likely, tape);
            refused("ask", x, x::ask, tape);
        }
        Check.tape(x, new int[40]);
        Check.dueOf("40 bytes", 16, x::held);
    }

    private static void strong(int many, int least, int... tape) {
        GripEstates x = new GripEstates();
        String told = java.util.Arrays.toString(tape);
        Check.tape(x, tape);
        Check.dueOf("strong " + told, many, () -> x.strong(false));
        Check.due("the tape is used up", 0, Check.lengthOfTape(x));
        Check.tape(x, tape);
        Check.dueOf("strong, least " + told, least, () -> x.strong(true));
        Check.due("the tape is used up", 0, Check.lengthOfTape(x));
    }

    private static void strengths() {
        strong(13, 0);
        strong(13, 5, 5, 1);
        strong(13, 0, 5, 0);
        // Held 5 and not 8: 5 to 7 without a wrong row, the others with one.
        strong(13, 5, 5, 1, 8, 0);
        // Held 8 and not 5: one of both is wrong, and of 5 to 7 both.
        strong(10, 0, 8, 1, 5, 0);
        strong(8, 5, 5, 1, 5, 1);
        strong(5, 0, 5, 0, 5, 0);
        strong(3, 5, 5, 1, 5, 1, 8, 0, 8, 0);
        strong(0, -1, 8, 1, 8, 1, 5, 0, 5, 0);
        strong(1, 12, 12, 1, 12, 1);
        strong(1, 0, 1, 0, 1, 0);
        int[] twenty = new int[40];
        for (int i = 0; i < 40; i += 2) {
            twenty[i] = 12;
            twenty[i + 1] = 1;
        }
        strong(1, 12, twenty);
    }

    private static void tried(int size, int... tape) {
        GripEstates x = new GripEstates();
        Check.tape(x, tape);
        Check.dueOf("test " + java.util.Arrays.toString(tape), size, x::test);
        Check.due("the tape is used up", 0, Check.lengthOfTape(x));
    }

    private static void trying() {
        // 0 to 12: size 6 leaves 6 below and 7 from it on, and 7 the other way round.
        tried(6);
        // 5 to 12: 5 to 8, and 9 to 12.
        tried(9, 5, 1, 5, 1);
        // 5, 6, 7: size 6 or 7.
        tried(6, 5, 1, 5, 1, 8, 0, 8, 0);
        tried(-1, 12, 1, 12, 1);
        tried(-1, 8, 1, 8, 1, 5, 0, 5, 0);
        tried(1, 2, 0, 2, 0);
    }

    private static void wrongTapesOfSizes() {
        GripEstates x = Check.of(VALLEY);
        int[][] tapes = {{1}, {1, 1, 2}, {0, 1}, {13, 1}, {1, 2}, {255, 1}, {1, 255}, {5, 1, 6, 7}, new int[42]};
        java.util.Arrays.fill(tapes[8], 1);
        for (int[] tape : tapes) {
            refused("strong", x, () -> x.strong(false), tape);
            refused("strong, least", x, () -> x.strong(true), tape);
            refused("test", x, x::test, tape);
        }
    }

    private static void opens(int n, int opened, int... tape) {
        GripEstates x = new GripEstates();
        String told = n + " " + java.util.Arrays.toString(tape);
        Check.tape(x, tape);
        Check.dueOf("fingers " + told, opened == -1 ? 0 : 1, () -> x.fingers(n) ? 1 : 0);
        Check.due("the tape is used up", 0, Check.lengthOfTape(x));
        Check.tape(x, tape);
        Check.dueOf("opens " + told, opened, () -> x.opens(n));
        Check.due("the tape is used up", 0, Check.lengthOfTape(x));
    }

    private static void fingers() {
        opens(0, -1);
        opens(5, -1);
        opens(99, -1);
        opens(0, -1, 1, 2, 3);
        for (int n = 0; n <= 99; n++) {
            opens(n, n % 4 == 0 ? -1 : n % 4, 1, 2, 3);
            opens(n, n % 2 == 0 ? -1 : 1, 1);
            opens(n, n % 3 == 0 ? -1 : n % 3, 2, 1, 1, 2, 2, 1);
        }
    }

    private static void opening() {
        // By 2 and 5: of 0, 1 she loses; 2, 3 by 2; 4 loses; 5 by 5 (0), 6 by 2 (4), 7 loses (5, 2 win), 8 loses.
        int[] wins = {-1, -1, 2, 2, -1, 5, 2, -1, -1};
        for (int n = 0; n < wins.length; n++) {
            opens(n, wins[n], 5, 2);
        }
        // Of several the least: of 9 by 9 (0), and by 1 (8, which loses by 1 and 9).
        opens(9, 1, 9, 1);
        opens(4, -1, 9, 9, 9, 9, 9, 9);
        opens(8, -1, 9);
        opens(9, 9, 9);
    }

    private static void wrongFingers() {
        GripEstates x = Check.of(VALLEY);
        int[][] tapes = {{0}, {10}, {1, 2, 3, 4, 5, 6, 7}, {1, 255}, {1, 2, 0}, {128}};
        for (int[] tape : tapes) {
            refused("fingers", x, () -> x.fingers(5) ? 1 : 0, tape);
            refused("opens", x, () -> x.opens(5), tape);
        }
        int[] wrong = {-1, 100, Integer.MIN_VALUE, Integer.MAX_VALUE};
        for (int n : wrong) {
            refused("fingers of " + n, x, () -> x.fingers(n) ? 1 : 0, 1, 2, 3);
            refused("opens of " + n, x, () -> x.opens(n), 1, 2, 3);
            refused("opens of " + n + " without numbers", x, () -> x.opens(n));
        }
    }
}
