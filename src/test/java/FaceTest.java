import java.lang.reflect.Constructor;
import java.lang.reflect.Field;
import java.lang.reflect.Method;
import java.lang.reflect.Modifier;
import java.util.Arrays;
import java.util.Set;
import java.util.TreeMap;
import java.util.TreeSet;

/** The public face: the constants, the constructor and the methods of the document, and no other. */
public final class FaceTest {
    private static void constants() throws IllegalAccessException {
        TreeMap<String, Integer> want = new TreeMap<>();
        String[] names = {
            "OK", "BAD", "FULL", "BUSY", "NONE", "SHORT", "EQUAL", "LESS", "GREATER",
            "WRITER", "READER", "SLOTS", "MAX_BITS", "MAX_PIECE", "START", "USE", "CAP"};
        int[] values = {0, -1, -2, -3, -4, -5, 0, 1, 2, 0, 1, 3, 80, 16, 2, 4, 128};
        for (int i = 0; i < names.length; i++) {
            want.put(names[i], values[i]);
        }
        TreeMap<String, Integer> got = new TreeMap<>();
        int constant = Modifier.PUBLIC | Modifier.STATIC | Modifier.FINAL;
        for (Field field : MarkovCloner.class.getDeclaredFields()) {
            if (Modifier.isPrivate(field.getModifiers())) {
                continue;
            }
            Check.due("modifiers of " + field.getName(), field.getModifiers(), constant);
            Check.due("type of " + field.getName(), field.getType(), int.class);
            got.put(field.getName(), field.getInt(null));
        }
        Check.due("the constants", got, want);
    }

    private static void methods() {
        Set<String> want = new TreeSet<>(Arrays.asList(
            "int put[int, int]", "int seal[int]", "void discard[]", "int open[int]", "int take[int]",
            "int recode[int]", "int drop[int]", "int compare[int, int]", "int lengthOf[int]",
            "int readerSlot[]", "int position[int]", "int states[int]", "int current[int]",
            "int flushes[int]", "int next[int, int, int]", "int count[int, int, int]"));
        Set<String> got = new TreeSet<>();
        for (Method method : MarkovCloner.class.getDeclaredMethods()) {
            if (Modifier.isPrivate(method.getModifiers())) {
                continue;
            }
            Check.due("modifiers of " + method.getName(), method.getModifiers(), Modifier.PUBLIC);
            got.add(method.getReturnType() + " " + method.getName() + Arrays.toString(method.getParameterTypes()));
        }
        Check.due("the methods", got, want);
    }

    private static void constructor() {
        Constructor<?>[] all = MarkovCloner.class.getDeclaredConstructors();
        Check.due("number of constructors", all.length, 1);
        Check.due("modifiers of the constructor", all[0].getModifiers(), Modifier.PUBLIC);
        Check.due("the constructor's arguments", Arrays.toString(all[0].getParameterTypes()), "[int, int, int, int]");
        Check.due("modifiers of the class", MarkovCloner.class.getModifiers(), Modifier.PUBLIC | Modifier.FINAL);
        Check.due("nested classes", MarkovCloner.class.getDeclaredClasses().length, 0);
    }

    public static void main(String[] args) throws IllegalAccessException {
        constants();
        methods();
        constructor();
        Check.finish();
    }
}
