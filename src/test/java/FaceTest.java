import java.lang.reflect.Constructor;
import java.lang.reflect.Field;
import java.lang.reflect.Method;
import java.lang.reflect.Modifier;
import java.util.Arrays;
import java.util.TreeSet;

/** The public face: the constants, the constructor and the methods of the document, and no other member. */
public final class FaceTest {
    private static final String[] CONSTANTS = {
        "ROOT", "B", "I", "U", "EM", "S", "SPAN", "DIV", "P", "UL", "LI", "OBJECT", "BR", "TEXT", "COMMENT"};
    private static final String[] METHODS = {
        "boolean feed(int)", "int parse()", "void reset()", "int status()", "int nodeCount()", "int nodeKind(int)",
        "int nodeParent(int)", "int nodeChild(int,int)", "int dataLength(int)", "char dataChar(int,int)",
        "int stackSize()", "int stackNode(int)", "int listSize()", "int listEntry(int)", "int serialLength()",
        "char serialChar(int)"};

    private static void constants() throws IllegalAccessException {
        TreeSet<String> due = new TreeSet<>();
        for (int i = 0; i < CONSTANTS.length; i++) {
            due.add("public static final int " + CONSTANTS[i] + " = " + i);
        }
        due.add("public static final int NOT_PARSED = 0");
        due.add("public static final int DONE = 1");
        due.add("public static final int FULL = 2");
        TreeSet<String> got = new TreeSet<>();
        for (Field field : MarkupTreeBuilder.class.getDeclaredFields()) {
            if (!Modifier.isPrivate(field.getModifiers())) {
                got.add(Modifier.toString(field.getModifiers()) + " " + field.getType() + " " + field.getName()
                    + " = " + field.get(null));
            }
        }
        Check.due("the constants", got.toString(), due.toString());
    }

    private static void methods() {
        TreeSet<String> due = new TreeSet<>();
        for (String method : METHODS) {
            due.add("public " + method);
        }
        TreeSet<String> got = new TreeSet<>();
        TreeSet<String> names = new TreeSet<>();
        for (Method method : MarkupTreeBuilder.class.getDeclaredMethods()) {
            if (!Modifier.isPrivate(method.getModifiers())) {
                got.add(method.toString().replace("MarkupTreeBuilder.", ""));
                names.add(method.getName());
            }
        }
        Check.due("the methods", got.toString(), due.toString());
        for (Method method : MarkupTreeBuilder.class.getDeclaredMethods()) {
            boolean clash = Modifier.isPrivate(method.getModifiers()) && names.contains(method.getName());
            Check.due("a private method bears the public name " + method.getName(), clash, false);
        }
    }

    private static void theClass() {
        Class<?> type = MarkupTreeBuilder.class;
        Check.due("modifiers of the class", Modifier.toString(type.getModifiers()), "public final");
        Check.due("package", type.getPackageName(), "");
        Check.due("what it extends", type.getSuperclass().getName(), "java.lang.Object");
        Check.due("what it implements", type.getInterfaces().length, 0);
        Check.due("nested classes", type.getDeclaredClasses().length, 0);
        Constructor<?>[] constructors = type.getDeclaredConstructors();
        Check.due("constructors", Arrays.toString(constructors), "[public MarkupTreeBuilder(int,int,int)]");
    }

    public static void main(String[] args) throws IllegalAccessException {
        constants();
        methods();
        theClass();
        Check.end();
    }
}
