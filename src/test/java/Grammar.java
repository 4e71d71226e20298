import java.util.ArrayDeque;
import java.util.Deque;

/** Both texts' grammars once more, by tables and states instead of calls within calls: where is the first wrong byte? */
final class Grammar {
    /** A word is due as it stands; # is a number from 0, + from 1; p a living person; q another one than p; h one whose
     *  hand is empty; what stands behind ? may be left out; ! may not come if the one behind the ? ahead of it came. */
    private static final String[][] LINES = {{"person", "age", "#99", "grip", "#9", "?heir", "p", "?tied"}, {"heir", "p", "q"},
        {"thing", "worth", "#99", "size", "+12", "of", "p", "?held", "h", "!cloth", "p"}, {"crown", "worth", "#99", "size", "+12"},
        {"death", "#100"}, {"witnesses", "#6"}, {"night", "#999"}};

    private final String text;
    private int from = 0;
    private int to = 0;
    private String token = "";

    private final boolean[] living = new boolean[8];
    private final boolean[] full = new boolean[8];
    private int people = 0;
    private int things = 0;

    Grammar(String text) {
        this.text = text;
    }

    void person(boolean lives, boolean holds) {
        living[people] = lives;
        full[people] = holds;
        people++;
    }

    void thing() {
        things++;
    }

    private void next() {
        from = to;
        while (from < text.length() && text.charAt(from) == ' ') {
            from++;
        }
        to = from;
        int kind = kindAt(from);
        while (to < text.length() && (to == from || kind > 0 && kindAt(to) == kind)) {
            to++;
        }
        token = text.substring(from, to);
    }

    private int kindAt(int i) {
        char c = i < text.length() ? text.charAt(i) : ' ';
        return c >= 'a' && c <= 'z' ? 1 : c >= '0' && c <= '9' ? 2 : 0;
    }

    private boolean isNumber(int least, int most) {
        return kindAt(from) == 2 && token.length() <= 3 && Integer.parseInt(token) >= least && Integer.parseInt(token) <= most;
    }

    /** The first wrong byte of a text of the valley, or -1. */
    int valley() {
        next();
        if (token.isEmpty()) {
            return -1;
        }
        for (int line = 0; line < 14; line++) {
            if (!line()) {
                return from;
            }
            if (token.isEmpty()) {
                return -1;
            }
            if (!token.equals(";")) {
                return from;
            }
            next();
        }
        return from;
    }

    /** Ends at what stands behind the line, or at what is wrong in it. */
    private boolean line() {
        for (String[] steps : LINES) {
            boolean thing = steps[0].equals("thing") || steps[0].equals("crown");
            boolean room = thing ? things < 10 : !steps[0].equals("person") || people < 7;
            if (token.equals(steps[0]) && room) {
                next();
                boolean right = walk(steps);
                if (right && steps[0].equals("person")) {
                    person(true, false);
                }
                things += thing ? 1 : 0;
                return right;
            }
        }
        return false;
    }

    private boolean walk(String[] steps) {
        int person = -1;
        boolean came = false;
        for (int i = 1; i < steps.length; i++) {
            String step = steps[i];
            char sign = step.charAt(0);
            if (sign == '?' || sign == '!') {
                boolean comes = token.equals(step.substring(1)) && !(sign == '!' && came);
                came |= comes;
                if (comes) {
                    next();
                } else if (i + 1 < steps.length && "ph".contains(steps[i + 1])) {
                    i++;
                }
                continue;
            }
            if (!stands(step, person)) {
                return false;
            }
            if ("ph".contains(step)) {
                person = Integer.parseInt(token);
                full[person] |= step.equals("h");
            }
            next();
        }
        return true;
    }

    private boolean stands(String step, int person) {
        switch (step.charAt(0)) {
            case '#': return isNumber(0, Integer.parseInt(step.substring(1)));
            case '+': return isNumber(1, Integer.parseInt(step.substring(1)));
            default: break;
        }
        if (step.length() > 1) {
            return token.equals(step);
        }
        boolean lives = isNumber(0, people - 1) && living[Integer.parseInt(token)];
        if (step.equals("q")) {
            return lives && Integer.parseInt(token) != person;
        }
        return lives && !(step.equals("h") && full[Integer.parseInt(token)]);
    }

    private enum State { LINE, AMOUNT, IF, ATOM, LEFT, LEFT_SIGN, RIGHT, RIGHT_SIGN, BEHIND }

    private final Deque<String> deep = new ArrayDeque<>();
    private State state = State.LINE;
    private int lines = 0;

    /** The first wrong byte of a text of the law, or -1. */
    int law() {
        next();
        if (token.isEmpty()) {
            return -1;
        }
        while (!token.isEmpty()) {
            if (!goes()) {
                return from;
            }
            next();
        }
        boolean may = state == State.IF || (state == State.BEHIND || state == State.RIGHT_SIGN) && !deep.contains("(");
        return may ? -1 : from;
    }

    /** Whether the token can stand here; the state is that behind it then. */
    private boolean goes() {
        switch (state) {
            case LINE:
                state = State.AMOUNT;
                lines++;
                return lines <= 12 && (token.equals("grip") || token.equals("slip") || token.equals("fail"));
            case AMOUNT:
                state = State.IF;
                return isNumber(0, 40);
            case IF:
                state = token.equals("if") ? State.ATOM : State.LINE;
                return token.equals("if") || token.equals(";");
            case ATOM:
                return goesAsAtom();
            case LEFT:
                state = State.LEFT_SIGN;
                return isPart();
            case LEFT_SIGN:
                state = token.equals("+") ? State.LEFT : State.RIGHT;
                return token.equals("+") || token.equals("<") || token.equals(">");
            case RIGHT:
                state = State.RIGHT_SIGN;
                return isPart();
            case RIGHT_SIGN:
                if (token.equals("+")) {
                    state = State.RIGHT;
                    return true;
                }
                return goesBehind();
            default:
                return goesBehind();
        }
    }

    private boolean isPart() {
        return isNumber(0, 999) || java.util.Set.of("person", "age", "hand", "owns", "laid", "size", "night").contains(token);
    }

    private boolean goesAsAtom() {
        if (token.equals("not") || token.equals("(")) {
            deep.push(token);
            return deep.size() <= 6;
        }
        boolean truth = token.equals("open") || token.equals("tied") || token.equals("alone");
        state = truth ? State.BEHIND : State.LEFT_SIGN;
        return truth || isPart();
    }

    /** Behind an atom: each not that waited for it has it. */
    private boolean goesBehind() {
        while ("not".equals(deep.peek())) {
            deep.pop();
        }
        if (token.equals("and") || token.equals("or")) {
            state = State.ATOM;
            return true;
        }
        if (token.equals(")")) {
            state = State.BEHIND;
            return "(".equals(deep.poll());
        }
        state = State.LINE;
        return token.equals(";") && deep.isEmpty();
    }
}
