import java.lang.reflect.Constructor;
import java.lang.reflect.Field;
import java.lang.reflect.Method;
import java.lang.reflect.Modifier;
import java.util.Arrays;
import java.util.Set;
import java.util.TreeSet;

/** "The public face", line by line: what the document names, and nothing else. */
public final class FaceTest {
    private static final String[] CONSTANTS = {
        "OK = 0", "BAD = -1", "FULL = -2", "BUSY = -3", "NONE = -4", "SHORT = -5",
        "EQUAL = 0", "LESS = 1", "GREATER = 2", "WRITER = 0", "READER = 1",
        "SLOTS = 3", "MAX_BITS = 80", "MAX_PIECE = 16", "START = 2", "USE = 4", "CAP = 128"};

    private static final String[] METHODS = {
        "int put(int value, int n)", "int seal(int slot)", "void discard()", "int open(int slot)", "int take(int n)",
        "int recode(int slot)", "int drop(int slot)", "int compare(int a, int b)", "int lengthOf(int slot)",
        "int readerSlot()", "int position(int side)", "int states(int side)", "int current(int side)",
        "int flushes(int side)", "int next(int side, int state, int bit)", "int count(int side, int state, int bit)"};

    private static void classItself() {
        Check.due("modifiers of the class", MarkovCloner.class.getModifiers(), Modifier.PUBLIC | Modifier.FINAL);
        Check.due("its package", MarkovCloner.class.getPackageName(), "");
        Check.due("nested classes", MarkovCloner.class.getDeclaredClasses().length, 0);
        Check.due("the constants, and no other", visibleFields(), new TreeSet<>(Arrays.asList(CONSTANTS)));
        Set<String> methods = new TreeSet<>();
        for (String line : METHODS) {
            methods.add(withoutNames(line));
        }
        Check.due("the methods, and no other", visibleMethods(), methods);
    }

    private static Set<String> visibleFields() {
        Set<String> texts = new TreeSet<>();
        for (Field field : MarkovCloner.class.getDeclaredFields()) {
            if (!Modifier.isPrivate(field.getModifiers())) {
                texts.add(field.getName() + " = " + valueOf(field));
            }
        }
        return texts;
    }

    private static Object valueOf(Field field) {
        try {
            return field.get(null);
        } catch (IllegalAccessException e) {
            throw new IllegalStateException(e);
        }
    }

    private static Set<String> visibleMethods() {
        Set<String> texts = new TreeSet<>();
        for (Method method : MarkovCloner.class.getDeclaredMethods()) {
            if (!Modifier.isPrivate(method.getModifiers())) {
                texts.add(textOf(method));
            }
        }
        return texts;
    }

    private static String textOf(Method method) {
        String types = Arrays.toString(method.getParameterTypes());
        return method.getReturnType() + " " + method.getName() + "(" + types.substring(1, types.length() - 1) + ")";
    }

    /** "int put(int value, int n)" as "int put(int, int)". */
    private static String withoutNames(String line) {
        return line.replaceAll("int \\w+(?=[,)])", "int");
    }

    private static void constant(String line) {
        String name = line.substring(0, line.indexOf(' '));
        for (Field field : MarkovCloner.class.getDeclaredFields()) {
            if (field.getName().equals(name)) {
                Check.due("modifiers", field.getModifiers(), Modifier.PUBLIC | Modifier.STATIC | Modifier.FINAL);
                Check.due("type", field.getType(), int.class);
                Check.due("value", name + " = " + valueOf(field), line);
            }
        }
    }

    private static void constructor() {
        Constructor<?>[] all = MarkovCloner.class.getDeclaredConstructors();
        Check.due("number of constructors", all.length, 1);
        Check.due("modifiers of the constructor", all[0].getModifiers(), Modifier.PUBLIC);
        Check.due("the constructor's arguments", Arrays.toString(all[0].getParameterTypes()), "[int, int, int, int]");
    }

    private static void method(String line) {
        for (Method method : MarkovCloner.class.getDeclaredMethods()) {
            if (textOf(method).equals(withoutNames(line))) {
                Check.due("modifiers", method.getModifiers(), Modifier.PUBLIC);
                Check.due("exceptions", method.getExceptionTypes().length, 0);
            }
        }
    }

    public static void main(String[] args) {
        Check.part("The public face");
        Check.sentence("public final class MarkovCloner {", FaceTest::classItself);
        for (String line : CONSTANTS) {
            Check.sentence("public static final int " + line + ";", () -> constant(line));
        }
        Check.sentence("public MarkovCloner(int width, int maxStates, int t1, int t2);", FaceTest::constructor);
        for (String line : METHODS) {
            Check.sentence("public " + line + ";", () -> method(line));
        }
        Check.finish();
    }
}
