import java.lang.reflect.Array;
import java.lang.reflect.Constructor;
import java.lang.reflect.Field;
import java.lang.reflect.Method;
import java.lang.reflect.Modifier;
import java.util.ArrayDeque;
import java.util.ArrayList;
import java.util.Arrays;
import java.util.Deque;
import java.util.HashSet;
import java.util.IdentityHashMap;
import java.util.List;
import java.util.Map;
import java.util.Set;
import java.util.TreeSet;

/** The public face as the document writes it out, the use that README.md shows, and the room that an object takes. */
public final class FaceTest extends Sentences {
    private static final String FACE = "The public face";

    /** Every line of the face: how it is written, and what it is to the machine. */
    private static final String[] METHODS = {
        "public boolean link(int server, int other, boolean up) throws IndexOutOfBoundsException;",
        "public boolean server(int server, boolean up) throws IndexOutOfBoundsException;",
        "public boolean lose(int server) throws IndexOutOfBoundsException;",
        "public int priority(int client, int object, int p) throws IndexOutOfBoundsException, IllegalArgumentException;",
        "public long find(int client, int directory, int name) throws IndexOutOfBoundsException, IllegalArgumentException;",
        "public long read(int client, int file) throws IndexOutOfBoundsException;",
        "public long write(int client, int file, int value, int size) throws IndexOutOfBoundsException, IllegalArgumentException;",
        "public long make(int client, int directory, int name, boolean isDirectory) throws IndexOutOfBoundsException, IllegalArgumentException;",
        "public long remove(int client, int directory, int object) throws IndexOutOfBoundsException;",
        "public long handIn(int client) throws IndexOutOfBoundsException;",
        "public long walk(int client) throws IndexOutOfBoundsException;",
        "public long meet(int server) throws IndexOutOfBoundsException;",
        "public long repair(int client, int file, int i) throws IndexOutOfBoundsException;",
        "public long copy(int server, int object, int what) throws IndexOutOfBoundsException;",
        "public long vector(int server, int object, int version, int k) throws IndexOutOfBoundsException;",
        "public long version(int server, int object, int version, int what) throws IndexOutOfBoundsException;",
        "public long entry(int server, int directory, int i, int what) throws IndexOutOfBoundsException;",
        "public long cached(int client, int object, int what) throws IndexOutOfBoundsException;",
        "public long record(int client, int i, int what) throws IndexOutOfBoundsException;",
        "public int told(int what) throws IndexOutOfBoundsException;",
    };
    private static final String[] CONSTANTS = {
        "NO", "NONE", "MISS", "GONE", "APART", "CONFLICT", "FULL", "NO_ROOM", "WRONG", "IS_ALONE"};

    public static void main(String[] args) throws IllegalAccessException {
        theClass();
        theMethods();
        theConstants();
        theClassesInside();
        noNameTwice();
        theUseInReadme();
        theRoom();
        end("The face");
    }

    private static void theClass() {
        given(FACE, "public final class ReplicaFiles {", 1);
        int modifiers = ReplicaFiles.class.getModifiers();
        due("public", Modifier.isPublic(modifiers), true);
        due("final", Modifier.isFinal(modifiers), true);
        due("no package", ReplicaFiles.class.getPackageName().isEmpty(), true);
        given(FACE, "public ReplicaFiles(int servers);", 1);
        Constructor<?>[] constructors = ReplicaFiles.class.getDeclaredConstructors();
        due("one constructor", constructors.length, 1);
        due("public", Modifier.isPublic(constructors[0].getModifiers()), true);
        due("an int", Arrays.equals(constructors[0].getParameterTypes(), new Class<?>[] {int.class}), true);
        due("throws nothing", constructors[0].getExceptionTypes().length, 0);
    }

    /** A method as the face writes it, but for the names of its parameters. */
    private static String written(Method method) {
        List<String> parameters = new ArrayList<>();
        for (Class<?> type : method.getParameterTypes()) {
            parameters.add(type.getSimpleName());
        }
        List<String> exceptions = new ArrayList<>();
        for (Class<?> type : method.getExceptionTypes()) {
            exceptions.add(type.getSimpleName());
        }
        return Modifier.toString(method.getModifiers()) + " " + method.getReturnType().getSimpleName() + " "
                + method.getName() + "(" + String.join(", ", parameters) + ") throws " + String.join(", ", exceptions) + ";";
    }

    private static void theMethods() {
        Set<String> open = new TreeSet<>();
        for (Method method : ReplicaFiles.class.getDeclaredMethods()) {
            if (!Modifier.isPrivate(method.getModifiers())) {
                open.add(written(method));
            }
        }
        for (String line : METHODS) {
            given(FACE, line, 1);
            String withoutNames = line.replaceAll("(int|boolean) \\w+(?=[,)])", "$1");
            due("the method is there so", open.remove(withoutNames), true);
        }
        due("no other method is open: " + open, open.isEmpty(), true);
    }

    private static void theConstants() throws IllegalAccessException {
        given(FACE, "public static final int NO = -1;", 1);
        Set<String> open = new HashSet<>();
        for (Field field : ReplicaFiles.class.getDeclaredFields()) {
            if (!Modifier.isPrivate(field.getModifiers())) {
                open.add(field.getName());
                due("public static final " + field.getName(),
                        field.getModifiers(), Modifier.PUBLIC | Modifier.STATIC | Modifier.FINAL);
            }
            due("a static field is final: " + field.getName(),
                    !Modifier.isStatic(field.getModifiers()) || Modifier.isFinal(field.getModifiers()), true);
        }
        due("just these", open.equals(new HashSet<>(Arrays.asList(CONSTANTS))), true);
        given(FACE, "public static final long NONE = -(1L << 41), MISS = -(1L << 41) - 1L,", 1);
        for (int i = 0; i < CONSTANTS.length; i++) {
            try {
                Field field = ReplicaFiles.class.getField(CONSTANTS[i]);
                due("type of " + CONSTANTS[i], field.getType() == (i == 0 ? int.class : long.class), true);
                due("value of " + CONSTANTS[i], field.getLong(null), i == 0 ? -1 : -(1L << 41) - (i - 1));
            } catch (NoSuchFieldException e) {
                due("there is " + CONSTANTS[i], false, true);
            }
        }
    }

    private static List<Class<?>> allClasses() {
        List<Class<?>> all = new ArrayList<>(List.of(ReplicaFiles.class));
        for (int i = 0; i < all.size(); i++) {
            all.addAll(Arrays.asList(all.get(i).getDeclaredClasses()));
        }
        return all;
    }

    private static void theClassesInside() {
        given(FACE, "public final class ReplicaFiles {", 1);
        List<Class<?>> all = allClasses();
        due("at most twelve classes", all.size() <= 12, true);
        for (Class<?> one : all.subList(1, all.size())) {
            int modifiers = one.getModifiers();
            due(one + " is not open", Modifier.isPublic(modifiers) || Modifier.isProtected(modifiers), false);
            due(one + " is static", Modifier.isStatic(modifiers), true);
        }
        for (Class<?> one : all) {
            long fields = Arrays.stream(one.getDeclaredFields()).filter(f -> !Modifier.isStatic(f.getModifiers())).count();
            due(one + " has some twenty fields at most", fields <= 20, true);
            for (Method method : one.getDeclaredMethods()) {
                due(method + " takes at most seven", method.getParameterCount() <= 7, true);
            }
        }
    }

    private static void noNameTwice() {
        given(FACE, "public final class ReplicaFiles {", 1);
        Set<String> open = new HashSet<>();
        for (Method method : ReplicaFiles.class.getMethods()) {
            if (method.getDeclaringClass() == ReplicaFiles.class) {
                open.add(method.getName());
            }
        }
        due("every name once", open.size(), METHODS.length);
        for (Class<?> one : allClasses()) {
            for (Method method : one.getDeclaredMethods()) {
                boolean isOfTheFace = one == ReplicaFiles.class && Modifier.isPublic(method.getModifiers());
                due(method + " bears a name of the face", !isOfTheFace && open.contains(method.getName()), false);
            }
        }
    }

    private static void theUseInReadme() {
        given("What it is", "clients read what is near, write wherever they can in two phases, go on alone with what they"
                + " have kept, and hand in later what they did; servers that meet put their trees together.", 2);
        due("make", x.make(0, 0, 3, false), 1);
        due("write", x.write(0, 1, 5, 2), 2);
        due("read", x.read(1, 1), 5);
        due("link", x.link(0, 4, false), true);
        due("link", x.link(1, 4, false), true);
        due("write alone", x.write(0, 1, 6, 2), 0);
        due("read alone", x.read(0, 1), 6);
        due("link", x.link(0, 4, true), true);
        due("hand in", x.handIn(0), 1);
        due("read apart", x.copy(0, 1, 0), 6);
        due("read apart", x.copy(1, 1, 0), 5);
        due("meet", x.meet(0), 1);
        due("alike", x.told(7), 1);
        due("read", x.read(1, 1), 6);
    }

    /** Objects and arrays, and their fields and elements, that can be come to from here. */
    private static long[] roomOf(Object from) throws IllegalAccessException {
        Map<Object, Boolean> seen = new IdentityHashMap<>();
        Deque<Object> open = new ArrayDeque<>();
        open.add(from);
        seen.put(from, true);
        long parts = 0;
        while (!open.isEmpty()) {
            for (Object part : partsOf(open.remove())) {
                parts++;
                if (part != null && !(part instanceof Number) && !(part instanceof Boolean) && seen.put(part, true) == null) {
                    open.add(part);
                }
            }
        }
        return new long[] {seen.size(), parts};
    }

    private static List<Object> partsOf(Object one) throws IllegalAccessException {
        List<Object> parts = new ArrayList<>();
        if (one.getClass().isArray()) {
            for (int i = 0; i < Array.getLength(one); i++) {
                parts.add(Array.get(one, i));
            }
            return parts;
        }
        for (Field field : one.getClass().getDeclaredFields()) {
            if (!Modifier.isStatic(field.getModifiers())) {
                field.setAccessible(true);
                parts.add(field.get(one));
            }
        }
        return parts;
    }

    private static void theRoom() throws IllegalAccessException {
        given("What it is", "An object is used for at most 512 calls after it has been made", 4);
        long[] atFirst = roomOf(x);
        due("few objects: " + atFirst[0], atFirst[0] < 6_000, true);
        due("few fields and elements: " + atFirst[1], atFirst[1] < 60_000, true);
        for (int i = 0; i < 512; i++) {
            int c = i % 4;
            switch (i % 8) {
                case 0: x.make(c, 0, i % 16, i % 5 == 0); break;
                case 1: x.write(c, i % 48, i, i % 7); break;
                case 2: near(c, c); break;
                case 3: x.meet(i % 4); break;
                case 4: near(c); break;
                case 5: x.remove(c, 0, i % 48); break;
                case 6: x.handIn(c); break;
                default: nearAll(c); break;
            }
        }
        long[] atLast = roomOf(x);
        due("objects that stay", atLast[0], atFirst[0]);
        due("fields and elements that stay", atLast[1], atFirst[1]);
    }
}
