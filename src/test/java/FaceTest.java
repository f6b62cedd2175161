import java.lang.reflect.Constructor;
import java.lang.reflect.Field;
import java.lang.reflect.Method;
import java.lang.reflect.Modifier;
import java.util.Set;
import java.util.TreeSet;

/** The class shows the document's face and nothing else, with the constants' values. */
public final class FaceTest {
    private static final Set<String> FACE = Set.of(
        "public static final int BAD = -1",
        "public static final int FULL = -2",
        "public static final int SAME = 0",
        "public static final int BEHIND = 1",
        "public static final int AHEAD = 2",
        "public static final int APART = 3",
        "public IntervalClocks()",
        "public int IntervalClocks.split(int)",
        "public int IntervalClocks.join(int,int)",
        "public int IntervalClocks.event(int)",
        "public int IntervalClocks.tell(int,int)",
        "public boolean IntervalClocks.note(int,int)",
        "public boolean IntervalClocks.erase(int)",
        "public int IntervalClocks.parties()",
        "public int IntervalClocks.notes()",
        "public int IntervalClocks.events()",
        "public int IntervalClocks.cells(int)",
        "public int IntervalClocks.compare(int,int)",
        "public int IntervalClocks.behind(int)",
        "public int IntervalClocks.newest()",
        "public boolean IntervalClocks.everywhere(int)",
        "public int IntervalClocks.apartPairs()");

    public static void main(String[] args) throws IllegalAccessException {
        Set<String> wrong = differences(shownMembers());
        int modifiers = IntervalClocks.class.getModifiers();
        if (!Modifier.isPublic(modifiers) || !Modifier.isFinal(modifiers)) {
            wrong.add("the class is not public and final");
        }
        if (IntervalClocks.class.getDeclaredClasses().length != 0) {
            wrong.add("there is a nested class");
        }
        wrong.forEach(System.out::println);
        System.out.println(wrong.isEmpty() ? "the face is as due" : "the face is not as due");
        if (!wrong.isEmpty()) {
            System.exit(1);
        }
    }

    private static Set<String> shownMembers() throws IllegalAccessException {
        Set<String> shown = new TreeSet<>();
        for (Field f : IntervalClocks.class.getDeclaredFields()) {
            if (!Modifier.isPrivate(f.getModifiers())) {
                boolean isStatic = Modifier.isStatic(f.getModifiers());
                String value = isStatic ? " = " + f.get(null) : "";
                shown.add(Modifier.toString(f.getModifiers()) + " " + f.getType() + " " + f.getName() + value);
            }
        }
        for (Constructor<?> c : IntervalClocks.class.getDeclaredConstructors()) {
            if (!Modifier.isPrivate(c.getModifiers())) {
                shown.add(c.toString());
            }
        }
        for (Method m : IntervalClocks.class.getDeclaredMethods()) {
            if (!Modifier.isPrivate(m.getModifiers())) {
                shown.add(m.toString());
            }
        }
        return shown;
    }

    private static Set<String> differences(Set<String> shown) {
        Set<String> wrong = new TreeSet<>();
        for (String member : FACE) {
            if (!shown.contains(member)) {
                wrong.add("missing: " + member);
            }
        }
        for (String member : shown) {
            if (!FACE.contains(member)) {
                wrong.add("not in the document: " + member);
            }
        }
        return wrong;
    }
}
