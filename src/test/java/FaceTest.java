import java.lang.reflect.Constructor;
import java.lang.reflect.Field;
import java.lang.reflect.Member;
import java.lang.reflect.Method;
import java.lang.reflect.Modifier;
import java.nio.file.Files;
import java.nio.file.Path;
import java.util.ArrayList;
import java.util.Arrays;
import java.util.List;
import java.util.TreeSet;

/** The public face: exactly what the document lists, and no private method named like a public one. */
public final class FaceTest {
    public static void main(String[] args) throws Exception {
        Check.due("public and final", true, Modifier.isPublic(GripEstates.class.getModifiers())
            && Modifier.isFinal(GripEstates.class.getModifiers()));
        Check.due("the face", documented().toString(), found().toString());
        noOtherVisibleMember();
        noPrivateNamesake();
        staticFieldsAreFinal();
        Check.end();
    }

    /** The lines of the document's face, as words without names of parameters. */
    private static TreeSet<String> documented() throws Exception {
        TreeSet<String> all = new TreeSet<>();
        boolean inside = false;
        for (String line : Files.readAllLines(Path.of("../shared/DOC.md"))) {
            String text = line.trim();
            if (text.startsWith("public final class GripEstates")) {
                inside = true;
            } else if (inside && text.equals("}")) {
                return all;
            } else if (inside && text.endsWith(";") && text.contains("(")) {
                all.add(signature(text));
            }
        }
        return all;
    }

    private static String signature(String text) {
        String head = text.substring("public ".length(), text.indexOf('('));
        String[] words = head.split(" ");
        String inner = text.substring(text.indexOf('(') + 1, text.indexOf(')'));
        List<String> types = new ArrayList<>();
        for (String parameter : inner.split(",")) {
            if (!parameter.isBlank()) {
                types.add(parameter.trim().split(" ")[0]);
            }
        }
        TreeSet<String> thrown = new TreeSet<>();
        if (text.contains(" throws ")) {
            String list = text.substring(text.indexOf(" throws ") + 8, text.length() - 1);
            for (String name : list.split(",")) {
                thrown.add(name.trim());
            }
        }
        String type = words.length == 1 ? "" : words[0] + " ";
        return type + words[words.length - 1] + types + " " + thrown;
    }

    private static TreeSet<String> found() {
        TreeSet<String> all = new TreeSet<>();
        for (Constructor<?> c : GripEstates.class.getDeclaredConstructors()) {
            if (Modifier.isPublic(c.getModifiers())) {
                all.add("GripEstates" + names(c.getParameterTypes()) + " " + new TreeSet<>(names(c.getExceptionTypes())));
            }
        }
        for (Method m : GripEstates.class.getDeclaredMethods()) {
            if (Modifier.isPublic(m.getModifiers())) {
                all.add(m.getReturnType().getSimpleName() + " " + m.getName() + names(m.getParameterTypes()) + " "
                    + new TreeSet<>(names(m.getExceptionTypes())));
            }
        }
        return all;
    }

    private static List<String> names(Class<?>[] types) {
        List<String> names = new ArrayList<>();
        for (Class<?> type : types) {
            names.add(type.getSimpleName());
        }
        return names;
    }

    private static void noOtherVisibleMember() {
        List<Member> members = new ArrayList<>();
        members.addAll(Arrays.asList(GripEstates.class.getDeclaredFields()));
        members.addAll(Arrays.asList(GripEstates.class.getDeclaredMethods()));
        for (Member m : members) {
            boolean told = Modifier.isPublic(m.getModifiers()) && (m instanceof Method || m.getName().equals("NONE"));
            Check.due("private or of the face: " + m.getName(), true,
                told || Modifier.isPrivate(m.getModifiers()) || m.isSynthetic());
        }
        for (Class<?> inner : GripEstates.class.getDeclaredClasses()) {
            Check.due("private or package-visible, and static: " + inner.getName(), true,
                Modifier.isStatic(inner.getModifiers()) && !Modifier.isPublic(inner.getModifiers())
                    && !Modifier.isProtected(inner.getModifiers()));
        }
    }

    private static void noPrivateNamesake() {
        TreeSet<String> names = new TreeSet<>();
        for (Method m : GripEstates.class.getDeclaredMethods()) {
            if (Modifier.isPublic(m.getModifiers())) {
                names.add(m.getName());
            }
        }
        Check.due("a method for each promise but the first", 49, names.size());
        List<Class<?>> all = new ArrayList<>(Arrays.asList(GripEstates.class.getDeclaredClasses()));
        all.add(GripEstates.class);
        for (Class<?> c : all) {
            for (Method m : c.getDeclaredMethods()) {
                boolean own = c == GripEstates.class && Modifier.isPublic(m.getModifiers());
                Check.due("no namesake: " + c.getName() + "." + m.getName(), true, own || !names.contains(m.getName()));
            }
        }
    }

    private static void staticFieldsAreFinal() {
        List<Class<?>> all = new ArrayList<>(Arrays.asList(GripEstates.class.getDeclaredClasses()));
        all.add(GripEstates.class);
        for (Class<?> c : all) {
            int fields = 0;
            for (Field f : c.getDeclaredFields()) {
                boolean constant = Modifier.isStatic(f.getModifiers());
                Check.due("final: " + c.getName() + "." + f.getName(), true, !constant || Modifier.isFinal(f.getModifiers()));
                fields += constant ? 0 : 1;
            }
            Check.due("fields of " + c.getName(), true, fields <= 20);
        }
        Check.due("classes", true, all.size() <= 13);
    }
}
