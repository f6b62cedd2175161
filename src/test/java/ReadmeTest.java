import java.io.IOException;
import java.lang.reflect.Field;
import java.lang.reflect.Method;
import java.lang.reflect.Modifier;
import java.nio.file.Files;
import java.nio.file.Path;
import java.util.Arrays;
import java.util.HashSet;
import java.util.Set;
import java.util.regex.Matcher;
import java.util.regex.Pattern;

/** README.md tells the class as it is: the answers of its example, every call, and the constants' values. */
public final class ReadmeTest {
    /** A call of the example with the answer that is told for it: a number, true or false, or a constant's name. */
    private static final Pattern CALL = Pattern.compile("^clocks\\.(\\w+)\\(([^)]*)\\); +// (-?\\w+):",
        Pattern.MULTILINE);

    private static int wrong = 0;

    public static void main(String[] args) throws IOException, ReflectiveOperationException {
        String readme = Files.readString(Path.of("README.md"));
        Set<String> called = exampleHolds(readme);
        for (Method method : IntervalClocks.class.getDeclaredMethods()) {
            if (Modifier.isPublic(method.getModifiers())) {
                String told = "\n- `" + method.getReturnType() + " " + method.getName() + "(";
                due("the list has " + method.getName(), readme.contains(told), true);
                due("the example has " + method.getName(), called.contains(method.getName()), true);
            }
        }
        for (Field field : IntervalClocks.class.getDeclaredFields()) {
            if (Modifier.isPublic(field.getModifiers())) {
                String told = "`" + field.getName() + " = " + field.get(null) + "`";
                due("the constants have " + told, readme.contains(told), true);
            }
        }
        System.out.println(wrong == 0 ? "README.md is as due" : "README.md is not as due");
        if (wrong != 0) {
            System.exit(1);
        }
    }

    /** Answers the names of the methods that the example calls. */
    private static Set<String> exampleHolds(String readme) throws ReflectiveOperationException {
        IntervalClocks clocks = new IntervalClocks();
        Set<String> called = new HashSet<>();
        Matcher call = CALL.matcher(readme);
        int calls = 0;
        while (call.find()) {
            calls++;
            called.add(call.group(1));
            due(call.group(), answer(clocks, call.group(1), call.group(2)), told(call.group(3)));
        }
        due("lines of the example that could be read", calls, readme.split("\nclocks\\.", -1).length - 1);
        return called;
    }

    private static Object answer(IntervalClocks clocks, String name, String list) throws ReflectiveOperationException {
        Object[] arguments = list.isEmpty() ? new Object[0]
            : Arrays.stream(list.split(", ")).map(Integer::valueOf).toArray();
        Class<?>[] types = new Class<?>[arguments.length];
        Arrays.fill(types, int.class);
        return IntervalClocks.class.getMethod(name, types).invoke(clocks, arguments);
    }

    private static Object told(String word) throws ReflectiveOperationException {
        if (word.equals("true") || word.equals("false")) {
            return Boolean.valueOf(word);
        }
        boolean isName = Character.isUpperCase(word.charAt(0));
        return isName ? IntervalClocks.class.getField(word).get(null) : Integer.valueOf(word);
    }

    private static void due(String what, Object got, Object want) {
        if (!got.equals(want)) {
            wrong++;
            System.out.println(what + " - this is " + got + ", due is " + want);
        }
    }
}
