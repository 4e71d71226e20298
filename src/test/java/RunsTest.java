import java.util.Random;

/** Promises 1 to 50 together: runs of calls by chance, each answer held against the model's. */
public final class RunsTest {
    private static final int RUNS = 1500;
    private static final int CALLS = 500;

    private final Random chance;
    private final int run;
    private final GripEstates x = new GripEstates();
    private final Model m = new Model();
    private int fault = -1;

    private RunsTest(int run) {
        this.run = run;
        this.chance = new Random(run);
    }

    public static void main(String[] args) {
        for (int run = 0; run < RUNS; run++) {
            new RunsTest(run).go();
        }
        Check.end();
    }

    private void go() {
        valleyText(14);
        for (int i = 0; i < CALLS; i++) {
            int kind = chance.nextInt(100);
            if (kind < 2) {
                lawText();
            } else if (kind < 3) {
                valleyText(3);
            } else if (kind < 5) {
                rightActs();
            } else if (kind < 45) {
                act();
            } else if (kind < 60) {
                question();
            } else if (kind < 85) {
                reckoning();
            } else {
                onTape();
            }
            if (chance.nextInt(10) == 0) {
                seeAll();
            }
        }
    }

    private void valleyText(int lines) {
        Model after = m.copy();
        String text = new Texts(chance).valley(after, lines);
        Check.text(x, text);
        long want = m.texts == 12 ? Check.UNSUPPORTED : m.texts + 1;
        due("valley " + text, want, x::valley);
        due("fault", -1, x::fault);
        if (m.texts < 12) {
            m.people = after.people;
            m.things = after.things;
            m.death = after.death;
            m.witnesses = after.witnesses;
            m.night = after.night;
            m.texts++;
            m.past.clear();
        }
    }

    private void lawText() {
        String text = new Texts(chance).law(m);
        Check.text(x, text);
        due("law " + text, m.law.size(), x::law);
        due("fault", -1, x::fault);
    }

    private int someone() {
        return chance.nextInt(25) == 0 ? chance.nextInt(40) - 20 : chance.nextInt(Math.max(1, m.people.size()));
    }

    private int something() {
        return chance.nextInt(25) == 0 ? chance.nextInt(40) - 20 : chance.nextInt(Math.max(1, m.things.size()));
    }

    private boolean flip() {
        return chance.nextBoolean();
    }

    private int nights() {
        return chance.nextInt(20) == 0 ? chance.nextInt(80) - 10 : chance.nextInt(5) == 0 ? chance.nextInt(61) : chance.nextInt(5);
    }

    /** Lays much ready, so that nights have something to do. */
    private void rightActs() {
        for (int t = 0; t < m.things.size(); t++) {
            int thing = t;
            int p = someone();
            same("lay " + t + " " + p, () -> x.lay(thing, p), () -> m.lay(thing, p));
        }
    }

    private void act() {
        int p = someone();
        int o = someone();
        int t = something();
        int n = nights();
        boolean is = flip();
        switch (chance.nextInt(15)) {
            case 0: case 1: same("nights " + n, () -> x.nights(n), () -> m.nights(n));
                break;
            case 2: case 3: same("lay " + t + " " + p, () -> x.lay(t, p), () -> m.lay(t, p));
                break;
            case 4: same("clear " + t, () -> x.clear(t), () -> m.clear(t));
                break;
            case 5: case 6: same("wake " + t, () -> x.wake(t), () -> m.wake(t));
                break;
            case 7: same("open " + p, () -> x.open(p), () -> m.open(p));
                break;
            case 8: same("swap " + p + " " + o, () -> x.swap(p, o), () -> m.swap(p, o));
                break;
            case 9: int heir = chance.nextInt(4) == 0 ? -1 : o;
                same("heir " + p + " " + heir, () -> x.heir(p, heir), () -> m.heir(p, heir));
                break;
            case 10: same("tie " + p, () -> x.tie(p, is) ? 1 : 0, () -> m.tie(p, is));
                break;
            case 11: int grip = chance.nextInt(14) - 2;
                same("born " + grip, () -> x.born(grip), () -> m.born(grip));
                break;
            case 12: same("give " + t + " " + p, () -> x.give(t, p), () -> m.give(t, p));
                break;
            case 13: same("undo", () -> x.undo() ? 1 : 0, m::undo);
                break;
            default: seedAndImage();
        }
    }

    private void seedAndImage() {
        int seed = flip() ? chance.nextInt() : chance.nextInt(10);
        switch (chance.nextInt(6)) {
            case 0: x.image();
                m.image();
                break;
            case 1: same("back", () -> x.back() ? 1 : 0, m::back);
                break;
            default: same("seed " + seed, () -> x.seed(seed), () -> m.seed(seed));
        }
    }

    private void question() {
        int p = someone();
        int t = something();
        int what = chance.nextInt(20) - 1;
        int ago = chance.nextInt(70) - 4;
        switch (chance.nextInt(6)) {
            case 0: case 1: same("person " + p + " " + what, () -> x.person(p, what), () -> m.person(p, what));
                break;
            case 2: same("thing " + t + " " + what / 3, () -> x.thing(t, what / 3), () -> m.thing(t, what / 3));
                break;
            case 3: same("shuts " + p + " " + t, () -> x.shuts(p, t), () -> m.shuts(p, t));
                break;
            case 4: same("log " + ago + " " + what / 3, () -> x.log(ago, what / 3), () -> m.log(ago, what / 3));
                break;
            default: same("count " + what, () -> x.count(what), () -> m.count(what));
        }
    }

    private void reckoning() {
        int p = chance.nextInt(6) == 0 ? -1 : someone();
        int n = nights();
        int w = chance.nextInt(4) == 0 ? chance.nextInt(140) - 10 : chance.nextInt(30);
        int few = chance.nextInt(7) - 1;
        boolean is = flip();
        switch (chance.nextInt(20)) {
            case 0: same("hoard " + p + " " + w + " " + is, () -> x.hoard(p, w, is), () -> m.hoard(p, w, is));
                break;
            case 1: same("round", x::round, m::round);
                break;
            case 2: same("escheat", x::escheat, m::escheat);
                break;
            case 3: same("watch", x::watch, m::watch);
                break;
            case 4: case 5: same("put " + p, () -> x.put(p), () -> m.put(p));
                break;
            case 6: case 7: same("pairs " + p, () -> x.pairs(p), () -> m.pairs(p));
                break;
            case 8: same("rests " + p, () -> x.rests(p), () -> m.rests(p));
                break;
            case 9: same("odds " + few, () -> x.odds(few), () -> m.odds(few));
                break;
            case 10: same("most " + few, () -> x.most(few), () -> m.most(few));
                break;
            case 11: same("living", x::living, m::living);
                break;
            case 12: same("idle", x::idle, m::idle);
                break;
            case 13: same("crown", x::crown, m::crown);
                break;
            case 14: same("wealth", x::wealth, m::wealth);
                break;
            case 15: same("twins", x::twins, m::twins);
                break;
            case 16: same("ahead " + p + " " + n, () -> x.ahead(p, n), () -> m.ahead(p, n));
                break;
            case 17: same("trial " + n + " " + is, () -> x.trial(n, is), () -> m.trial(n, is));
                break;
            case 18: same("span " + n + " " + is, () -> x.span(n, is), () -> m.span(n, is));
                break;
            default: same("led " + p + " " + is, () -> x.led(p, is), () -> m.led(p, is));
        }
    }

    private void onTape() {
        int[] things = rows(true);
        int[] sizes = rows(false);
        int[] numbers = new int[chance.nextInt(12) == 0 ? 7 : chance.nextInt(7)];
        for (int i = 0; i < numbers.length; i++) {
            numbers[i] = chance.nextInt(50) == 0 ? chance.nextInt(256) : 1 + chance.nextInt(9);
        }
        int n = chance.nextInt(20) == 0 ? chance.nextInt(130) - 10 : chance.nextInt(100);
        boolean is = flip();
        switch (chance.nextInt(7)) {
            case 0: told("held", things, x::held, () -> m.held(things));
                break;
            case 1: told("likely", things, x::likely, () -> m.likely(things));
                break;
            case 2: told("ask", things, x::ask, () -> m.ask(things));
                break;
            case 3: told("strong " + is, sizes, () -> x.strong(is), () -> Model.strong(sizes, is));
                break;
            case 4: told("test", sizes, x::test, () -> Model.test(sizes));
                break;
            case 5: told("opens " + n, numbers, () -> x.opens(n), () -> Model.opens(numbers, n));
                break;
            default: told("fingers " + n, numbers, () -> x.fingers(n) ? 1 : 0, () -> Model.opens(numbers, n) >= 0 ? 1 : 0);
        }
    }

    private void told(String what, int[] tape, Check.Call call, Check.Call model) {
        Check.tape(x, tape);
        same(what + " " + java.util.Arrays.toString(tape), call, model);
        Check.due(what + " uses the tape up", false, x.end(1));
        due("fault", fault, x::fault);
    }

    /** Rows of a thing (or a strength), most of them right. */
    private int[] rows(boolean ofThings) {
        int[] tape = new int[2 * chance.nextInt(chance.nextInt(4) == 0 ? 23 : 5) + (chance.nextInt(30) == 0 ? 1 : 0)];
        int thing = m.things.isEmpty() ? -1 : chance.nextInt(m.things.size());
        int strength = chance.nextInt(13);
        for (int i = 0; i + 1 < tape.length; i += 2) {
            boolean right = chance.nextInt(4) > 0;
            if (ofThings) {
                tape[i] = chance.nextInt(3);
                int owner = thing < 0 ? 0 : m.things.get(thing).owner;
                int value = thing < 0 ? 0 : tape[i] == 0 ? m.things.get(thing).worth
                    : tape[i] == 1 ? m.things.get(thing).size : owner < 0 ? 9 : owner;
                tape[i + 1] = right ? value : chance.nextInt(chance.nextInt(4) == 0 ? 103 : 10);
            } else {
                tape[i] = chance.nextInt(40) == 0 ? 13 * chance.nextInt(2) : 1 + chance.nextInt(12);
                tape[i + 1] = (strength >= tape[i] ? 1 : 0) ^ (right ? 0 : 1);
            }
            if (chance.nextInt(60) == 0) {
                tape[i + chance.nextInt(2)] = chance.nextInt(256);
            }
        }
        return tape;
    }

    private void seeAll() {
        for (int what = 0; what < 12; what++) {
            int n = what;
            same("count " + what, () -> x.count(n), () -> m.count(n));
        }
        for (int p = 0; p < m.people.size(); p++) {
            for (int what = 0; what < 18; what++) {
                int q = p;
                int n = what;
                same("person " + p + " " + what, () -> x.person(q, n), () -> m.person(q, n));
            }
        }
        for (int t = 0; t < m.things.size(); t++) {
            for (int what = 0; what < 5; what++) {
                int u = t;
                int n = what;
                same("thing " + t + " " + what, () -> x.thing(u, n), () -> m.thing(u, n));
            }
        }
        for (int ago = 0; ago < 62; ago++) {
            for (int what = 0; what < 5; what++) {
                int a = ago;
                int n = what;
                same("log " + ago + " " + what, () -> x.log(a, n), () -> m.log(a, n));
            }
        }
    }

    private void same(String what, Check.Call call, Check.Call model) {
        due(what, Check.answerOf(model), call);
    }

    private void due(String what, long want, Check.Call call) {
        Check.due("run " + run + ": " + what, want, Check.answerOf(call));
    }
}
