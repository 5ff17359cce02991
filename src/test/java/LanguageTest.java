import java.io.IOException;
import java.lang.reflect.Array;
import java.lang.reflect.Field;
import java.lang.reflect.Method;
import java.lang.reflect.Modifier;
import java.nio.file.Files;
import java.nio.file.Path;
import java.util.ArrayDeque;
import java.util.ArrayList;
import java.util.Collections;
import java.util.Deque;
import java.util.IdentityHashMap;
import java.util.List;
import java.util.Set;
import java.util.regex.Matcher;
import java.util.regex.Pattern;

/** Those rules of LANGUAGE.md that a program can look at, and the room that one desk takes. */
public final class LanguageTest {
    private static final Path SOURCE = Path.of("src/main/java/BoardDesk.java");
    private static final Pattern COMMENT = Pattern.compile("(?s)/\\*.*?\\*/|//[^\\n]*");
    private static final Pattern IMPORT = Pattern.compile("(?m)^import (.*);$");
    private static final String IMPORTED =
            "java\\.util\\.(Arrays|ArrayList|List|Iterator|NoSuchElementException)";
    private static final Pattern LIBRARY = Pattern.compile(
            "\\b(?:System|Arrays|Math|Integer|Long|String|Character|Boolean)\\.\\w+");
    private static final String LISTED = "System\\.arraycopy|Arrays\\.(copyOf|copyOfRange|fill)"
            + "|(Math|Integer|Long)\\.(compare|max|min|abs|bitCount|floorDiv|floorMod)";
    private static final List<String> OUTSIDE = List.of("\\bpackage\\b", "->", "::",
            "\\bstatic \\{", "\\bfinally\\b", "\\bsynchronized\\b", "\\bassert\\b",
            "\\bthrow\\b", "\\btry\\b", "\\bwhile \\(true\\)", "\\bfor \\(;;\\)");
    private static final int MOST_LINES = 60;
    private static final int MOST_PARAMETERS = 7;
    private static final int MOST_CLASSES = 12;
    private static final int MOST_FIELDS = 20;
    /** A run of 512 calls may be 512 new desks: a room has place for more of these than that. */
    private static final int MOST_OBJECTS = 600000 / 512;
    private static final int MOST_ELEMENTS = 7300000 / 512;

    private static final Due due = new Due();

    public static void main(String[] args) throws IOException, IllegalAccessException {
        String code = COMMENT.matcher(Files.readString(SOURCE)).replaceAll("");
        onlyTheListedLibrary(code);
        nothingOutsideTheRules(code);
        methodsAreShort(Files.readAllLines(SOURCE));
        List<Class<?>> classes = new ArrayList<>(List.of(BoardDesk.class.getDeclaredClasses()));
        due.yes("classes inside are static", classes.stream().allMatch(LanguageTest::isInside));
        classes.add(BoardDesk.class);
        due.yes("few classes", classes.size() <= MOST_CLASSES);
        for (Class<?> one : classes) {
            fieldsAreFewAndStaticOnesFinal(one);
            parametersAreFew(one);
        }
        aDeskIsSmall();
        due.finish();
    }

    private static boolean isInside(Class<?> one) {
        int modifiers = one.getModifiers();
        boolean seen = Modifier.isPublic(modifiers) || Modifier.isProtected(modifiers);
        return Modifier.isStatic(modifiers) && !seen;
    }

    private static void onlyTheListedLibrary(String code) {
        Matcher imports = IMPORT.matcher(code);
        while (imports.find()) {
            due.yes(imports.group() + " is listed", imports.group(1).matches(IMPORTED));
        }
        Matcher calls = LIBRARY.matcher(code);
        while (calls.find()) {
            due.yes(calls.group() + " is listed", calls.group().matches(LISTED));
        }
    }

    /** The document tells of no call that throws, so a throw is outside here too. */
    private static void nothingOutsideTheRules(String code) {
        for (String outside : OUTSIDE) {
            due.no(outside + " is there", Pattern.compile(outside).matcher(code).find());
        }
    }

    /** A method begins with a line that ends in a brace and ends with one at the same depth. */
    private static void methodsAreShort(List<String> lines) {
        Pattern head = Pattern.compile("( {4}| {8})\\w[^=;]*\\) \\{");
        int methods = 0;
        for (int at = 0; at < lines.size(); at++) {
            Matcher matcher = head.matcher(lines.get(at));
            boolean control = lines.get(at).matches(" *(if|for|while|switch) .*");
            if (matcher.matches() && !control) {
                int end = lines.subList(at, lines.size()).indexOf(matcher.group(1) + "}");
                due.yes(lines.get(at) + " is short", end > 0 && end < MOST_LINES);
                methods++;
            }
        }
        due.yes("methods were found", methods > 80);
    }

    private static void fieldsAreFewAndStaticOnesFinal(Class<?> one) {
        int fields = 0;
        for (Field field : one.getDeclaredFields()) {
            if (Modifier.isStatic(field.getModifiers())) {
                due.yes(field + " is final", Modifier.isFinal(field.getModifiers()));
            } else {
                fields++;
            }
        }
        due.yes(one + " has few fields", fields <= MOST_FIELDS);
    }

    private static void parametersAreFew(Class<?> one) {
        for (Method method : one.getDeclaredMethods()) {
            due.yes(method + " takes few", method.getParameterCount() <= MOST_PARAMETERS);
        }
    }

    private static void aDeskIsSmall() throws IllegalAccessException {
        BoardDesk desk = new BoardDesk();
        due.yes("a new desk has few objects", room(desk)[0] <= MOST_OBJECTS);
        due.yes("a new desk has few elements", room(desk)[1] <= MOST_ELEMENTS);
        int[] before = room(desk);
        BoardDesk used = Desks.crowded();
        used.auto();
        due.same("objects of a used desk", room(used)[0], before[0]);
        due.same("elements of a used desk", room(used)[1], before[1]);
    }

    /** How many objects and arrays hang on an object, and how many fields and elements in all. */
    private static int[] room(Object root) throws IllegalAccessException {
        Set<Object> found = Collections.newSetFromMap(new IdentityHashMap<>());
        Deque<Object> waiting = new ArrayDeque<>(List.of(root));
        int elements = 0;
        while (!waiting.isEmpty()) {
            Object one = waiting.remove();
            if (found.add(one)) {
                elements += one.getClass().isArray()
                        ? elementsOf(one, waiting) : fieldsOf(one, waiting);
            }
        }
        return new int[] {found.size(), elements};
    }

    private static int elementsOf(Object array, Deque<Object> waiting) {
        int length = Array.getLength(array);
        if (!array.getClass().getComponentType().isPrimitive()) {
            for (int i = 0; i < length; i++) {
                waiting.add(Array.get(array, i));
            }
        }
        return length;
    }

    private static int fieldsOf(Object one, Deque<Object> waiting) throws IllegalAccessException {
        int fields = 0;
        for (Field field : one.getClass().getDeclaredFields()) {
            if (!Modifier.isStatic(field.getModifiers())) {
                fields++;
                field.setAccessible(true);
                if (!field.getType().isPrimitive()) {
                    waiting.add(field.get(one));
                }
            }
        }
        return fields;
    }
}
