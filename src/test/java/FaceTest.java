import java.io.IOException;
import java.lang.reflect.Constructor;
import java.lang.reflect.Field;
import java.lang.reflect.Method;
import java.lang.reflect.Modifier;
import java.nio.file.Files;
import java.nio.file.Path;
import java.util.ArrayList;
import java.util.Arrays;
import java.util.List;
import java.util.Random;
import java.util.TreeSet;

/** The face of the class, what may stand in its file, and that no call throws what the document does not name. */
public final class FaceTest {
    private static final Check CHECK = new Check();
    private static final String I = "IndexOutOfBoundsException";
    private static final String A = "IllegalArgumentException";
    private static final String S = "IllegalStateException";
    /** Name, number of arguments, and the exceptions that the document lists. */
    private static final String[] FACE = {
        "crew 2 " + A + " " + S, "enter 1 " + I + " " + S, "lapse 1 " + I + " " + S, "division 1 " + A + " " + S,
        "begin 0 " + S, "contact 1 " + I + " " + S, "end 0 " + S, "penal 2 " + I + " " + A + " " + S,
        "place 1 " + I, "placeAnew 1 " + I, "rows 1 " + I, "chart 2 " + I, "bumps 2 " + I + " " + A,
        "seed 1 " + I + " " + S, "draw 0 " + S, "lane 2 " + I, "time 2 " + I + " " + A + " " + S, "next 0 " + S,
        "regatta 0", "result 1 " + I + " " + S, "verdict 1 " + I + " " + S, "head 1 " + I + " " + S,
        "finish 2 " + I + " " + A + " " + S, "punish 2 " + I + " " + A + " " + S, "rank 1 " + I, "overtook 1 " + I};

    private FaceTest() {
    }

    public static void main(String[] arguments) throws IOException {
        methodsOfTheFace();
        membersOfTheClass();
        namesOfPrivateMethods();
        noOtherExceptions();
        if (arguments.length > 0) {
            wordsOfTheFile(Files.readString(Path.of(arguments[0])));
        } else {
            CHECK.due("the file to read is told", false);
        }
        CHECK.close();
    }

    private static void methodsOfTheFace() {
        TreeSet<String> found = new TreeSet<>();
        for (Method method : BumpsRiver.class.getDeclaredMethods()) {
            if (Modifier.isPublic(method.getModifiers())) {
                StringBuilder text = new StringBuilder(method.getName() + " " + method.getParameterCount());
                for (Class<?> kind : method.getExceptionTypes()) {
                    text.append(' ').append(kind.getSimpleName());
                }
                found.add(text.toString());
                CHECK.due(method + " answers int", method.getReturnType() == int.class);
            }
        }
        TreeSet<String> due = new TreeSet<>(Arrays.asList(FACE));
        CHECK.due("the face is " + found + ", due is " + due, found.equals(due));
    }

    private static void membersOfTheClass() {
        int kind = BumpsRiver.class.getModifiers();
        CHECK.due("the class is public and final", Modifier.isPublic(kind) && Modifier.isFinal(kind));
        Constructor<?>[] constructors = BumpsRiver.class.getDeclaredConstructors();
        CHECK.due("one constructor", 1, constructors.length);
        CHECK.due("it is public", Modifier.isPublic(constructors[0].getModifiers()));
        List<String> constants = List.of("NONE", "ENTERING", "HEATS", "FINAL", "OVER");
        for (Field field : BumpsRiver.class.getDeclaredFields()) {
            boolean open = !Modifier.isPrivate(field.getModifiers());
            CHECK.due("open field " + field.getName(), open == constants.contains(field.getName()));
        }
        for (Method method : BumpsRiver.class.getDeclaredMethods()) {
            int modifiers = method.getModifiers();
            CHECK.due("method " + method.getName(), Modifier.isPublic(modifiers) || Modifier.isPrivate(modifiers));
        }
        for (Class<?> inside : BumpsRiver.class.getDeclaredClasses()) {
            CHECK.due("static class " + inside.getName(), Modifier.isStatic(inside.getModifiers()));
        }
    }

    private static void namesOfPrivateMethods() {
        List<String> names = new ArrayList<>();
        for (String line : FACE) {
            names.add(line.substring(0, line.indexOf(' ')));
        }
        for (Method method : BumpsRiver.class.getDeclaredMethods()) {
            boolean closed = !Modifier.isPublic(method.getModifiers());
            CHECK.due("a name of the face twice: " + method, !closed || !names.contains(method.getName()));
        }
        for (Class<?> inside : BumpsRiver.class.getDeclaredClasses()) {
            for (Method method : inside.getDeclaredMethods()) {
                CHECK.due("a name of the face inside: " + method, !names.contains(method.getName()));
            }
        }
    }

    /** More calls than an object is used for, with the arguments' extremes: only what is listed may come. */
    private static void noOtherExceptions() {
        int[] extremes = {Integer.MIN_VALUE, Integer.MIN_VALUE + 1, -25, -1, 16, 24, 25, 96, 384, 999999, 1000000,
            9999999, 10000000, Integer.MAX_VALUE - 1, Integer.MAX_VALUE};
        for (int run = 0; run < 60; run++) {
            Random random = new Random(run);
            BumpsRiver x = new BumpsRiver();
            for (int i = 0; i < 4000; i++) {
                String[] words = FACE[random.nextInt(FACE.length)].split(" ");
                boolean extreme = run % 2 == 0 && random.nextInt(4) == 0;
                int one = extreme ? extremes[random.nextInt(extremes.length)] : random.nextInt(24);
                int other = extreme ? extremes[random.nextInt(extremes.length)] : random.nextInt(81);
                checkThrown(x, words, one, other);
            }
        }
    }

    private static void checkThrown(BumpsRiver x, String[] words, int one, int other) {
        try {
            Calls.call(x, words[0], one, other);
        } catch (RuntimeException e) {
            // A subclass would be one that the machine throws.
            boolean listed = e.getClass().getPackageName().equals("java.lang")
                    && Arrays.asList(words).indexOf(e.getClass().getSimpleName()) > 1;
            CHECK.due(words[0] + "(" + one + ", " + other + ") threw " + e, listed);
        }
    }

    private static void wordsOfTheFile(String text) {
        String[] words = {"import ", "package ", "->", "::", "try ", "catch", "finally", "assert", "synchronized",
            "new Object", "System.", "hashCode", "equals(", "toString", "instanceof", "Exact(", "double", "float",
            "protected", "static {"};
        for (String word : words) {
            CHECK.due("the file has " + word, !text.contains(word));
        }
        int public_ = text.split("\\bpublic ", -1).length - 1;
        CHECK.due("public members: the class, two lines of constants, the constructor, the methods",
                1 + 2 + 1 + FACE.length, public_);
        for (int i = 0; i < text.length(); i++) {
            if (text.charAt(i) > 126) {
                CHECK.due("a sign outside of the plain ones at " + i, false);
            }
        }
    }
}
