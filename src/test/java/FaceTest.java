import java.lang.reflect.Constructor;
import java.lang.reflect.Field;
import java.lang.reflect.Member;
import java.lang.reflect.Method;
import java.lang.reflect.Modifier;
import java.nio.file.Files;
import java.nio.file.Path;
import java.util.Arrays;
import java.util.Set;
import java.util.TreeSet;

/** The public face, and the words that LANGUAGE.md keeps out of the program. */
public final class FaceTest {
    public static void main(String[] args) throws Exception {
        Class<MonitorDesk> desk = MonitorDesk.class;
        Due.is("the class", Modifier.toString(desk.getModifiers()), "public final");
        Due.is("its package", desk.getPackageName(), "");
        Due.is("what it extends", desk.getSuperclass(), Object.class);
        Due.is("what it implements", desk.getInterfaces().length, 0);
        classesInside(desk);
        Set<String> face = new TreeSet<>();
        Set<String> hidden = new TreeSet<>();
        for (Field field : desk.getDeclaredFields()) {
            staticFieldIsAConstant(field);
            String type = Modifier.toString(field.getModifiers()) + " " + field.getType();
            put(field, type + " " + field.getName(), face, hidden);
        }
        for (Constructor<?> made : desk.getDeclaredConstructors()) {
            put(made, made.toString(), face, hidden);
        }
        for (Method method : desk.getDeclaredMethods()) {
            put(method, method.toString(), face, hidden);
        }
        Due.is("the face", face, new TreeSet<>(Set.of(
            "public static final int DONE", "public static final int REFUSED", "public static final int NOT_DONE",
            "public MonitorDesk()", "public int MonitorDesk.hold(int,int)", "public int MonitorDesk.step(int,int)",
            "public int MonitorDesk.clear()", "public int MonitorDesk.run()", "public int MonitorDesk.result(int)",
            "public int MonitorDesk.failure()", "public int MonitorDesk.state(int)")));
        hidden.retainAll(Set.of("hold", "step", "clear", "run", "result", "failure", "state"));
        Due.is("private members with a public method's name", hidden, Set.of());
        wordsKeptOut();
        Due.end();
    }

    private static void classesInside(Class<?> desk) {
        for (Class<?> inside : desk.getDeclaredClasses()) {
            int modifiers = inside.getModifiers();
            boolean hidden = !Modifier.isPublic(modifiers) && !Modifier.isProtected(modifiers);
            Due.is(inside + " is static, and not public or protected", hidden && Modifier.isStatic(modifiers), true);
        }
    }

    /** LANGUAGE.md, rule 5, but for the arrays, of which this class needs none. */
    private static void staticFieldIsAConstant(Field field) {
        if (Modifier.isStatic(field.getModifiers())) {
            Due.is(field + " is final", Modifier.isFinal(field.getModifiers()), true);
            Due.is(field + " is an int", field.getType(), int.class);
        }
    }

    private static void put(Member member, String text, Set<String> face, Set<String> hidden) {
        if (Modifier.isPrivate(member.getModifiers())) {
            hidden.add(member.getName());
        } else {
            face.add(text);
        }
    }

    private static void wordsKeptOut() throws Exception {
        String text = Files.readString(Path.of("src/main/java/MonitorDesk.java"))
            .replaceAll("(?s)/\\*.*?\\*/", " ").replaceAll("//[^\n]*", " ");
        Set<String> found = new TreeSet<>(Arrays.asList(text.split("\\W+")));
        found.retainAll(Set.of("throw", "throws", "try", "catch", "finally", "synchronized", "assert", "package",
            "Thread", "Object", "System", "Random", "volatile", "native", "protected"));
        Due.is("words kept out", found, Set.of());
    }
}
