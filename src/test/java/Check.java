/** What all tests share: texts put on the tape, and answers held against those that are due. */
final class Check {
    /** Stand for exceptions among answers, far from any number that a call answers. */
    static final long INDEX = 1L << 40;
    static final long ARGUMENT = 2L << 40;
    static final long STATE = 3L << 40;
    static final long ELEMENT = 4L << 40;
    static final long UNSUPPORTED = 5L << 40;
    static final long OTHER = 6L << 40;

    private static int wrong = 0;
    private static int checked = 0;
    private static String heading = "";

    interface Call {
        long answer();
    }

    interface Act {
        void go();
    }

    private Check() {
    }

    /** What stands ahead of each wrong answer that is told from now on. */
    static void about(String sentence) {
        heading = "[" + sentence + "] ";
    }

    static void due(String what, long want, long got) {
        checked++;
        if (want != got) {
            wrong++;
            System.out.println(heading + what + ": answered " + shown(got) + ", due is " + shown(want));
        }
    }

    static void due(String what, boolean want, boolean got) {
        due(what, want ? 1 : 0, got ? 1 : 0);
    }

    static void due(String what, String want, String got) {
        checked++;
        if (!want.equals(got)) {
            wrong++;
            System.out.println(heading + what + ": answered " + got + ", due is " + want);
        }
    }

    static void dueOf(String what, long want, Call call) {
        due(what, want, answerOf(call));
    }

    /** The answer, or the number that stands for the exact class of the exception. */
    static long answerOf(Call call) {
        try {
            return call.answer();
        } catch (RuntimeException e) {
            return numberOf(e);
        }
    }

    private static long numberOf(RuntimeException e) {
        Class<?> kind = e.getClass();
        if (kind == IndexOutOfBoundsException.class) {
            return INDEX;
        }
        if (kind == IllegalArgumentException.class) {
            return ARGUMENT;
        }
        if (kind == IllegalStateException.class) {
            return STATE;
        }
        if (kind == java.util.NoSuchElementException.class) {
            return ELEMENT;
        }
        if (kind == UnsupportedOperationException.class) {
            return UNSUPPORTED;
        }
        e.printStackTrace(System.out);
        return OTHER;
    }

    private static String shown(long answer) {
        String[] names = {"", "IndexOutOfBoundsException", "IllegalArgumentException",
            "IllegalStateException", "NoSuchElementException", "UnsupportedOperationException", "another exception"};
        boolean thrown = answer >= INDEX && answer <= OTHER && answer % INDEX == 0;
        return thrown ? names[(int) (answer / INDEX)] : Long.toString(answer);
    }

    /** Puts exactly these bytes on a tape that has none. */
    static void tape(GripEstates x, int... bytes) {
        x.end(0);
        int[] padded = java.util.Arrays.copyOf(bytes, (bytes.length + 19) / 20 * 20);
        for (int at = 0; at < padded.length; at += 20) {
            x.feed(four(padded, at), four(padded, at + 4), four(padded, at + 8), four(padded, at + 12),
                four(padded, at + 16));
        }
        x.end(bytes.length);
    }

    private static int four(int[] bytes, int at) {
        return bytes[at] << 24 | bytes[at + 1] << 16 | bytes[at + 2] << 8 | bytes[at + 3];
    }

    static void text(GripEstates x, String text) {
        int[] bytes = new int[text.length()];
        for (int i = 0; i < bytes.length; i++) {
            bytes[i] = text.charAt(i);
        }
        tape(x, bytes);
    }

    static long valley(GripEstates x, String text) {
        text(x, text);
        return answerOf(x::valley);
    }

    static long law(GripEstates x, String text) {
        text(x, text);
        return answerOf(x::law);
    }

    /** A new object with these texts of the valley, each of which must be right. */
    static GripEstates of(String... texts) {
        GripEstates x = new GripEstates();
        for (int i = 0; i < texts.length; i++) {
            due("valley " + texts[i], i + 1, valley(x, texts[i]));
        }
        return x;
    }

    static void lawIs(GripEstates x, String text) {
        long answer = law(x, text);
        due("law " + text + " is right, fault " + x.fault(), true, answer < INDEX);
    }

    /** All that can be seen of an object without changing it, but for fault() and the image. */
    static String seen(GripEstates x) {
        return seenButForActs(x) + "\nacts " + x.count(11) + " and " + x.count(12);
    }

    /** The same without how many acts can be undone. */
    static String seenButForActs(GripEstates x) {
        StringBuilder all = new StringBuilder();
        for (int what = -1; what <= 10; what++) {
            all.append(x.count(what)).append(' ');
        }
        for (int p = 0; p < x.count(0); p++) {
            all.append("\np").append(p).append(':');
            for (int what = 0; what <= 17; what++) {
                all.append(' ').append(x.person(p, what));
            }
            all.append(' ').append(x.led(p, false)).append(' ').append(x.led(p, true));
        }
        for (int t = 0; t < x.count(1); t++) {
            all.append("\nt").append(t).append(':');
            for (int what = 0; what <= 4; what++) {
                all.append(' ').append(x.thing(t, what));
            }
        }
        all.append("\nlog:");
        for (int ago = 0; ago < x.count(10); ago++) {
            for (int what = 0; what <= 4; what++) {
                all.append(' ').append(x.log(ago, what));
            }
            all.append(',');
        }
        int seed = x.seed(0);
        x.seed(seed);
        return all.append("\nseed ").append(seed).toString();
    }

    /** A call that throws changes nothing: want is the exception's number. */
    static void refused(String what, long want, GripEstates x, Call call) {
        String before = seen(x);
        dueOf(what, want, call);
        due(what + " changes nothing", before, seen(x));
    }

    /** How many bytes the tape has; they are gone by that. */
    static int lengthOfTape(GripEstates x) {
        int length = 400;
        while (length > 0 && !x.end(length)) {
            length--;
        }
        x.end(0);
        return length;
    }

    static void end() {
        if (wrong > 0) {
            System.out.println(wrong + " of " + checked + " answers are wrong");
            System.exit(1);
        }
        System.out.println(checked + " answers are as due");
    }
}
