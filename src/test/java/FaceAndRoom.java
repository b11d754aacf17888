import java.io.IOException;
import java.lang.management.ManagementFactory;
import java.lang.reflect.Constructor;
import java.lang.reflect.Field;
import java.lang.reflect.Method;
import java.lang.reflect.Modifier;
import java.nio.file.Files;
import java.nio.file.Path;
import java.util.ArrayList;
import java.util.Arrays;
import java.util.Collections;
import java.util.List;

/** The public face, rules of LANGUAGE.md that can be seen from outside, and the room that calls take. */
public final class FaceAndRoom {
    private static final String[] FACE = {
        "int put(int,int) IndexOutOfBoundsException IllegalArgumentException IllegalStateException",
        "int move(int,int) IndexOutOfBoundsException IllegalStateException",
        "int pick(int) IndexOutOfBoundsException IllegalStateException",
        "int turn(int) IndexOutOfBoundsException IllegalStateException",
        "int jam(int,boolean) IndexOutOfBoundsException",
        "int set(int,int) IndexOutOfBoundsException IllegalArgumentException IllegalStateException",
        "int append(int) IllegalArgumentException IllegalStateException",
        "int clearBuffer()",
        "int firstError()",
        "int pickAll() IllegalArgumentException",
        "int undo() IllegalStateException",
        "int drawer(int,int) IndexOutOfBoundsException IllegalArgumentException",
        "int item(int,int) IndexOutOfBoundsException IllegalArgumentException",
        "int count(int) IllegalArgumentException",
        "int setting(int) IndexOutOfBoundsException",
        "int refusal(int)",
        "int way(int) IndexOutOfBoundsException",
        "int ifPut(int,int) IndexOutOfBoundsException IllegalArgumentException",
        "int bestDrawer(int) IllegalArgumentException",
        "int ifPicked(int,int) IllegalArgumentException",
        "double evenness()",
        "long digest()"};

    private static final String[] RULED_OUT = {"->", "::", "catch", "finally", "synchronized", "assert ", "import ",
        "package ", "Double.", "Float.", "Exact(", "Object", "enum ", "record ", "static {", "float ", ".hashCode",
        ".toString", "System.out", "Random", "nanoTime"};

    private FaceAndRoom() {
    }

    private static String written(Method method) {
        List<String> types = new ArrayList<>();
        for (Class<?> type : method.getParameterTypes()) {
            types.add(type.getSimpleName());
        }
        StringBuilder line = new StringBuilder();
        line.append(method.getReturnType()).append(' ').append(method.getName());
        line.append('(').append(String.join(",", types)).append(')');
        for (Class<?> thrown : method.getExceptionTypes()) {
            line.append(' ').append(thrown.getSimpleName());
        }
        return line.toString();
    }

    private static void face() {
        Class<DrawerRing> face = DrawerRing.class;
        Due.isTrue("the class is public and final", face.getModifiers() == (Modifier.PUBLIC | Modifier.FINAL));
        List<String> open = new ArrayList<>();
        List<String> names = new ArrayList<>();
        for (Method method : face.getDeclaredMethods()) {
            if (!Modifier.isPrivate(method.getModifiers())) {
                Due.isTrue(method + " is public alone", method.getModifiers() == Modifier.PUBLIC);
                open.add(written(method));
                names.add(method.getName());
            }
        }
        List<String> due = new ArrayList<>(Arrays.asList(FACE));
        Collections.sort(open);
        Collections.sort(due);
        Due.isTrue("the methods " + open + " are those of the document", open.equals(due));
        Constructor<?>[] constructors = face.getDeclaredConstructors();
        Due.is("constructors", constructors.length, 1);
        Due.is("parameters of the constructor", constructors[0].getParameterCount(), 0);
        Due.isTrue("the constructor is public", constructors[0].getModifiers() == Modifier.PUBLIC);
        for (Field field : face.getDeclaredFields()) {
            boolean isOpen = !Modifier.isPrivate(field.getModifiers());
            Due.isTrue(field + " is private or NONE", !isOpen || field.getName().equals("NONE"));
            Due.isTrue(field + " is final if static",
                    !Modifier.isStatic(field.getModifiers()) || Modifier.isFinal(field.getModifiers()));
        }
        Due.is("classes inside, at most 12", Math.max(12, face.getDeclaredClasses().length), 12);
        for (Class<?> inside : face.getDeclaredClasses()) {
            Due.isTrue(inside + " is static", Modifier.isStatic(inside.getModifiers()));
            Due.isTrue(inside + " has some twenty fields at most", inside.getDeclaredFields().length <= 20);
            for (Method method : inside.getDeclaredMethods()) {
                Due.isTrue(method + " bears a name of its own", !names.contains(method.getName()));
            }
        }
        for (Method method : face.getDeclaredMethods()) {
            boolean isPrivate = Modifier.isPrivate(method.getModifiers());
            Due.isTrue(method + " bears a name of its own", !isPrivate || !names.contains(method.getName()));
        }
    }

    private static void language() throws IOException {
        String program = Files.readString(Path.of("src/main/java/DrawerRing.java"));
        for (String word : RULED_OUT) {
            Due.isTrue("the program does without '" + word + "'", !program.contains(word));
        }
        for (char sign : program.toCharArray()) {
            if (sign > 127) {
                Due.report("the program has the sign " + (int) sign);
            }
        }
    }

    /** A call that does not throw makes nothing: what it needs is made with the object. */
    private static long roomOf(DrawerRing x, int calls) {
        com.sun.management.ThreadMXBean threads =
                (com.sun.management.ThreadMXBean) ManagementFactory.getThreadMXBean();
        long before = threads.getCurrentThreadAllocatedBytes();
        for (int k = 0; k < calls; k++) {
            x.turn(k % 12);
            x.undo();
            x.ifPicked(2, 1);
            x.digest();
        }
        return threads.getCurrentThreadAllocatedBytes() - before;
    }

    private static void room() {
        DrawerRing x = new DrawerRing();
        for (int k = 0; k < 40; k++) {
            x.put(k % 12, 1 + k % 10);
        }
        Due.type(x, "39,1,20,13,24,5");
        Due.is("the batch is picked", x.ifPicked(2, 0), 6);
        roomOf(x, 10);
        Due.isTrue("400 calls make less than 20000 bytes", roomOf(x, 100) < 20000);
    }

    public static void main(String[] args) throws IOException {
        face();
        language();
        room();
        Due.end();
    }
}
