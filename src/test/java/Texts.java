import java.util.ArrayList;
import java.util.List;
import java.util.Random;

/** Right texts made by chance, each with what it means for the model. */
final class Texts {
    private final Random chance;
    private final StringBuilder text = new StringBuilder();

    Texts(Random chance) {
        this.chance = chance;
    }

    private int upTo(int n) {
        return chance.nextInt(n + 1);
    }

    private void say(Object... parts) {
        for (Object part : parts) {
            text.append(part);
            if (chance.nextInt(3) > 0 || part instanceof String) {
                text.append(" ".repeat(1 + (chance.nextInt(8) == 0 ? 2 : 0)));
            }
        }
    }

    private int oneLiving(Model m) {
        List<Integer> all = new ArrayList<>();
        for (int p = 0; p < m.people.size(); p++) {
            if (m.people.get(p).living) {
                all.add(p);
            }
        }
        return all.isEmpty() ? -1 : all.get(chance.nextInt(all.size()));
    }

    /** A text of the valley; the model has it already. */
    String valley(Model m, int most) {
        text.setLength(0);
        int lines = 0;
        for (int i = 0; i < 40 && lines < most && text.length() < 320; i++) {
            int before = text.length();
            if (lines > 0) {
                say(";");
            }
            if (line(m)) {
                lines++;
            } else {
                text.setLength(before);
            }
        }
        m.texts++;
        m.past.clear();
        return text.toString();
    }

    private boolean line(Model m) {
        int who = oneLiving(m);
        int kind = chance.nextInt(24);
        if (kind < 9) {
            return person(m, who);
        }
        if (kind < 18) {
            return thing(m, who);
        }
        if (kind == 18 && m.things.size() < 10) {
            int worth = upTo(9) * upTo(11);
            int size = 1 + upTo(11);
            say("crown", "worth", worth, "size", size);
            m.addThing(worth, size, -1, -1, -1);
            return true;
        }
        if (kind < 21) {
            int other = oneLiving(m);
            if (who < 0 || other == who) {
                return false;
            }
            say("heir", who, " ", other);
            m.people.get(who).heir = other;
            return true;
        }
        return setting(m, kind);
    }

    private boolean person(Model m, int who) {
        if (m.people.size() >= 7) {
            return false;
        }
        int age = upTo(99);
        int grip = upTo(9);
        int heir = chance.nextInt(3) == 0 ? -1 : who;
        boolean tied = chance.nextInt(4) == 0;
        say("person", "age", age, "grip", grip);
        if (heir >= 0) {
            say("heir", heir);
        }
        if (tied) {
            say("tied");
        }
        m.addPerson(age, grip, heir, tied);
        return true;
    }

    private boolean thing(Model m, int who) {
        if (m.things.size() >= 10 || who < 0) {
            return false;
        }
        int worth = upTo(9) * upTo(11);
        int size = 1 + upTo(chance.nextBoolean() ? 11 : 5);
        int where = chance.nextInt(3);
        int whose = oneLiving(m);
        say("thing", "worth", worth, "size", size, "of", who);
        if (where == 1 && m.holding(whose) < 0) {
            say("held", whose);
            m.addThing(worth, size, who, whose, -1);
        } else if (where > 0) {
            say("cloth", whose);
            m.addThing(worth, size, who, -1, whose);
        } else {
            m.addThing(worth, size, who, -1, -1);
        }
        return true;
    }

    private boolean setting(Model m, int kind) {
        if (kind == 21) {
            m.death = chance.nextInt(3) == 0 ? upTo(100) : upTo(3);
            say("death", m.death);
        } else if (kind == 22) {
            m.witnesses = upTo(3) * upTo(2);
            say("witnesses", m.witnesses);
        } else {
            m.night = upTo(999);
            say("night", m.night);
        }
        return true;
    }

    /** A text of the law; the model has it already. */
    String law(Model m) {
        List<Model.Line> lines = new ArrayList<>();
        StringBuilder whole = new StringBuilder();
        int many = upTo(chance.nextInt(4) == 0 ? 12 : 5);
        for (int i = 0; i < many; i++) {
            text.setLength(0);
            Model.Line line = lawLine(i > 0);
            if (whole.length() + text.length() <= 400) {
                whole.append(text);
                lines.add(line);
            }
        }
        m.law = lines;
        m.past.clear();
        return whole.toString();
    }

    private Model.Line lawLine(boolean further) {
        String[] kinds = {"grip", "slip", "fail"};
        String kind = kinds[chance.nextInt(3)];
        int amount = upTo(chance.nextInt(6) == 0 ? 40 : 4);
        if (further) {
            say(";");
        }
        say(kind, amount);
        if (chance.nextInt(5) == 0) {
            return new Model.Line(kind, amount, null);
        }
        say("if");
        return new Model.Line(kind, amount, any(0));
    }

    private Model.Condition any(int depth) {
        Model.Condition first = every(depth);
        if (chance.nextInt(4) > 0) {
            return first;
        }
        say("or");
        Model.Condition rest = any(depth);
        return (m, p) -> first.of(m, p) || rest.of(m, p);
    }

    private Model.Condition every(int depth) {
        Model.Condition first = atom(depth);
        if (chance.nextInt(4) > 0) {
            return first;
        }
        say("and");
        Model.Condition rest = every(depth);
        return (m, p) -> first.of(m, p) && rest.of(m, p);
    }

    private Model.Condition atom(int depth) {
        int kind = chance.nextInt(depth < 6 ? 9 : 7);
        if (kind == 8) {
            say("not");
            Model.Condition inner = atom(depth + 1);
            return (m, p) -> !inner.of(m, p);
        }
        if (kind == 7) {
            say("(");
            Model.Condition inner = any(depth + 1);
            say(")");
            return inner;
        }
        if (kind == 6) {
            say("open");
            return (m, p) -> m.holding(p) < 0;
        }
        if (kind == 5) {
            say("tied");
            return (m, p) -> m.people.get(p).tied;
        }
        if (kind == 4) {
            say("alone");
            return (m, p) -> m.successor(p) < 0;
        }
        Model.Sum left = sum();
        boolean less = chance.nextBoolean();
        say(less ? "<" : ">");
        Model.Sum right = sum();
        return (m, p) -> less ? left.of(m, p) < right.of(m, p) : left.of(m, p) > right.of(m, p);
    }

    private Model.Sum sum() {
        Model.Sum first = part();
        if (chance.nextInt(4) > 0) {
            return first;
        }
        say("+");
        Model.Sum rest = sum();
        return (m, p) -> first.of(m, p) + rest.of(m, p);
    }

    private Model.Sum part() {
        switch (chance.nextInt(10)) {
            case 0: say("person");
                return (m, p) -> p;
            case 1: say("age");
                return (m, p) -> m.people.get(p).age;
            case 2: say("hand");
                return (m, p) -> m.people.get(p).grip;
            case 3: say("owns");
                return (m, p) -> m.owned(p).size();
            case 4: say("laid");
                return (m, p) -> m.cloth(p).size();
            case 5: say("size");
                return (m, p) -> m.holding(p) < 0 ? 0 : m.things.get(m.holding(p)).size;
            case 6: say("night");
                return (m, p) -> m.night % 100;
            default: break;
        }
        int number = upTo(chance.nextInt(3) == 0 ? 100 : 10);
        say(number);
        return (m, p) -> number;
    }
}
