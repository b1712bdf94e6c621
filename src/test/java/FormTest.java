import java.io.IOException;
import java.lang.reflect.Array;
import java.lang.reflect.Field;
import java.lang.reflect.Member;
import java.lang.reflect.Method;
import java.lang.reflect.Modifier;
import java.nio.file.Files;
import java.nio.file.Path;
import java.util.ArrayDeque;
import java.util.ArrayList;
import java.util.Arrays;
import java.util.Collections;
import java.util.Deque;
import java.util.IdentityHashMap;
import java.util.List;
import java.util.Objects;
import java.util.Set;
import java.util.TreeSet;
import java.util.regex.Pattern;
import java.util.stream.Collectors;

/** The rules of LANGUAGE.md that can be seen from the compiled class, from single words and from what an object holds. */
public final class FormTest {
    private static final Path SOURCE = Path.of("src/main/java/TrunkRadio.java");
    private static final String FACE = "back(int) clear() controls(int,int) count(int) forget() keep(int) look(int) "
        + "moves(int) net() odds(int,int,int,int) presses(int,int) queue(int) radio(int,int) ranks(int) releases(int) "
        + "sees(int,int) site(int,int) soon(int) talker(int) ticks(int) type(int) undo() wave(int,int) within(int,int)";

    public static void main(String[] args) throws IOException, IllegalAccessException {
        String code = withoutComments(Files.readString(SOURCE));
        face();
        nestedClasses();
        forbiddenWords(code);
        room();
        Check.end();
    }

    private static String withoutComments(String source) {
        return Pattern.compile("/\\*.*?\\*/", Pattern.DOTALL).matcher(source).replaceAll("").replaceAll("//[^\n]*", "");
    }

    private static void face() {
        Class<?> face = TrunkRadio.class;
        Check.due("public and final", face.getModifiers(), Modifier.PUBLIC | Modifier.FINAL);
        Check.due("one constructor", face.getDeclaredConstructors().length, 1);
        Check.due("a public one", face.getConstructors().length, 1);
        String calls = Arrays.stream(face.getDeclaredMethods())
            .filter(m -> !isPrivate(m))
            .map(FormTest::call)
            .sorted()
            .collect(Collectors.joining(" "));
        Check.isTrue("the calls are those of the document: " + calls, calls.equals(FACE));
        String constants = Arrays.stream(face.getDeclaredFields())
            .filter(f -> !isPrivate(f))
            .map(Field::getName)
            .sorted()
            .collect(Collectors.joining(" "));
        Check.isTrue("the constants: " + constants, constants.equals("BAD FULL NONE STATE"));
        Check.due("BAD", TrunkRadio.BAD, -1);
        Check.due("STATE", TrunkRadio.STATE, -2);
        Check.due("FULL", TrunkRadio.FULL, -3);
        Check.due("NONE", TrunkRadio.NONE, -9);
    }

    private static boolean isPrivate(Member member) {
        return Modifier.isPrivate(member.getModifiers());
    }

    private static String call(Method m) {
        Check.isTrue(m.getName() + " answers an int", m.getReturnType() == int.class && !Modifier.isStatic(m.getModifiers()));
        return m.getName() + Arrays.stream(m.getParameterTypes()).map(Class::getName)
            .collect(Collectors.joining(",", "(", ")"));
    }

    private static void nestedClasses() {
        Set<String> publicNames = new TreeSet<>();
        for (Method m : TrunkRadio.class.getDeclaredMethods()) {
            if (!isPrivate(m)) {
                publicNames.add(m.getName());
            }
        }
        List<Class<?>> classes = new ArrayList<>(Arrays.asList(TrunkRadio.class.getDeclaredClasses()));
        Check.isTrue("some twelve classes", classes.size() <= 11);
        for (Class<?> one : classes) {
            Check.isTrue(one + " is static", Modifier.isStatic(one.getModifiers()));
            Check.isTrue(one + " is not public", !Modifier.isPublic(one.getModifiers()));
        }
        classes.add(TrunkRadio.class);
        for (Class<?> one : classes) {
            int fields = 0;
            for (Field f : one.getDeclaredFields()) {
                boolean isStatic = Modifier.isStatic(f.getModifiers());
                fields += isStatic ? 0 : 1;
                Check.isTrue(f + " is final, if static", !isStatic || Modifier.isFinal(f.getModifiers()));
            }
            Check.isTrue(one + " has some twenty fields", fields <= 20);
            for (Method m : one.getDeclaredMethods()) {
                Check.isTrue(m + " has at most seven parameters", m.getParameterCount() <= 7);
                boolean isOfTheFace = one == TrunkRadio.class && !isPrivate(m);
                Check.isTrue(m + " has no public call's name", isOfTheFace || !publicNames.contains(m.getName()));
            }
        }
    }

    private static void forbiddenWords(String code) {
        String[] words = {"throw", "throws", "try", "catch", "finally", "synchronized", "assert", "import", "package",
            "protected", "double", "float", "Object", "hashCode", "toString", "Thread", "volatile", "native", "var"};
        for (String word : words) {
            Check.isTrue("no " + word, !Pattern.compile("\\b" + word + "\\b").matcher(code).find());
        }
        Check.isTrue("no lambda", !code.contains("->"));
        Check.isTrue("no method reference", !code.contains("::"));
        Check.isTrue("no static initialiser", !Pattern.compile("static\\s*\\{").matcher(code).find());
        Check.isTrue("plain signs alone", code.chars().allMatch(c -> c == '\n' || c >= 32 && c < 127));
    }

    /** What one object holds is little, and no call makes it more: all objects of a run live in one room. */
    private static void room() throws IllegalAccessException {
        TrunkRadio x = Made.fresh();
        int[] fresh = held(x);
        Check.isTrue("objects and arrays: " + fresh[0], fresh[0] <= 200);
        Check.isTrue("fields and elements: " + fresh[1], fresh[1] <= 2000);
        TrunkRadio[] used = {Made.busy(), Made.brim()};
        for (TrunkRadio one : used) {
            Deep.plain(one);
            Check.due("objects and arrays of one that was used", held(one)[0], fresh[0]);
            Check.due("fields and elements of one that was used", held(one)[1], fresh[1]);
        }
    }

    /** How many objects and arrays can be reached from one, itself included, and how many fields and elements they have. */
    private static int[] held(Object root) throws IllegalAccessException {
        Set<Object> known = Collections.newSetFromMap(new IdentityHashMap<>());
        Deque<Object> open = new ArrayDeque<>(List.of(root));
        int places = 0;
        while (!open.isEmpty()) {
            Object one = open.pop();
            if (!known.add(one)) {
                continue;
            }
            if (one.getClass().isArray()) {
                places += Array.getLength(one);
                if (one instanceof Object[] row) {
                    Arrays.stream(row).filter(Objects::nonNull).forEach(open::push);
                }
                continue;
            }
            for (Field f : one.getClass().getDeclaredFields()) {
                if (Modifier.isStatic(f.getModifiers())) {
                    continue;
                }
                places++;
                f.setAccessible(true);
                if (!f.getType().isPrimitive() && f.get(one) != null) {
                    open.push(f.get(one));
                }
            }
        }
        return new int[] {known.size(), places};
    }
}
