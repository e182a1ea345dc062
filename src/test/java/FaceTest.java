import java.lang.reflect.Constructor;
import java.lang.reflect.Field;
import java.lang.reflect.Member;
import java.lang.reflect.Method;
import java.lang.reflect.Modifier;
import java.util.Arrays;
import java.util.TreeSet;
import java.util.stream.Collectors;

/** The public face as the document writes it, and rule 1 of LANGUAGE.md: nothing else of the class can be seen. */
public final class FaceTest {
    private static final Due DUE = new Due("the face");

    private static final String[] FACE = {
        "int append(int) throws IllegalArgumentException, IllegalStateException",
        "int fill(int, int) throws IllegalArgumentException, IllegalStateException",
        "int clearBuffer()",
        "int insert() throws IllegalStateException",
        "int update(int) throws IndexOutOfBoundsException, IllegalStateException",
        "int delete(int) throws IndexOutOfBoundsException",
        "int bringHome()",
        "int compact(int) throws IndexOutOfBoundsException",
        "int rows()",
        "boolean isRow(int)",
        "int length(int) throws IndexOutOfBoundsException",
        "int byteOf(int, int) throws IndexOutOfBoundsException",
        "int placeOf(int) throws IndexOutOfBoundsException",
        "int next(int)",
        "int rowAt(int)",
        "int pages()",
        "int pageByte(int, int) throws IndexOutOfBoundsException",
        "int free(int) throws IndexOutOfBoundsException",
        "int gap(int) throws IndexOutOfBoundsException",
        "int kind(int)",
        "int notes()",
        "int moves()",
        "int returns()",
        "int compactions()",
        "double fillFactor()",
        "int ifInserted(int) throws IllegalArgumentException",
        "int ifUpdated(int, int) throws IndexOutOfBoundsException, IllegalArgumentException",
        "int greatestAtHome(int) throws IndexOutOfBoundsException",
        "int capacity(int) throws IllegalArgumentException",
        "int firstError()",
        "int run() throws IllegalArgumentException",
        "int undo() throws IllegalStateException",
        "int savedStates()",
        "long digest()"};

    public static void main(String[] args) {
        publicFace();
        nothingElseIsVisible();
        namesAreNotShared();
        DUE.end();
    }

    private static String signature(Method m) {
        String parameters = Arrays.stream(m.getParameterTypes()).map(Class::getSimpleName).collect(Collectors.joining(", "));
        String thrown = Arrays.stream(m.getExceptionTypes()).map(Class::getSimpleName).collect(Collectors.joining(", "));
        return m.getReturnType() + " " + m.getName() + "(" + parameters + ")" + (thrown.isEmpty() ? "" : " throws " + thrown);
    }

    private static void publicFace() {
        TreeSet<String> got = new TreeSet<>();
        for (Method m : HeapFile.class.getDeclaredMethods()) {
            if (Modifier.isPublic(m.getModifiers())) {
                got.add(signature(m));
                DUE.same(m.getName() + " is static", Modifier.isStatic(m.getModifiers()), false);
            }
        }
        DUE.same("public methods", got, new TreeSet<>(Arrays.asList(FACE)));
        DUE.same("class", Modifier.toString(HeapFile.class.getModifiers()), "public final");
        DUE.same("constructors", Arrays.toString(HeapFile.class.getDeclaredConstructors()), "[public HeapFile()]");
        DUE.same("NONE", HeapFile.NONE, -1);
    }

    private static void nothingElseIsVisible() {
        for (Method m : HeapFile.class.getDeclaredMethods()) {
            visible(m);
        }
        for (Field f : HeapFile.class.getDeclaredFields()) {
            if (f.getName().equals("NONE")) {
                DUE.same("NONE", f.toString(), "public static final int HeapFile.NONE");
            } else {
                DUE.same(f.getName() + " is private", Modifier.isPrivate(f.getModifiers()), true);
            }
            staticsAreFinal(f);
        }
        for (Class<?> inside : HeapFile.class.getDeclaredClasses()) {
            int modifiers = inside.getModifiers();
            DUE.same(inside + " is static", Modifier.isStatic(modifiers), true);
            DUE.same(inside + " is public", Modifier.isPublic(modifiers) || Modifier.isProtected(modifiers), false);
            for (Field f : inside.getDeclaredFields()) {
                staticsAreFinal(f);
            }
            for (Constructor<?> c : inside.getDeclaredConstructors()) {
                DUE.same(c + " is public", Modifier.isPublic(c.getModifiers()), false);
            }
        }
    }

    private static void visible(Member m) {
        int modifiers = m.getModifiers();
        DUE.same(m + " is public or private", Modifier.isPublic(modifiers) || Modifier.isPrivate(modifiers), true);
    }

    private static void staticsAreFinal(Field f) {
        int modifiers = f.getModifiers();
        DUE.same(f + " is no static state", !Modifier.isStatic(modifiers) || Modifier.isFinal(modifiers), true);
    }

    private static void namesAreNotShared() {
        TreeSet<String> names = new TreeSet<>();
        for (Method m : HeapFile.class.getDeclaredMethods()) {
            if (Modifier.isPublic(m.getModifiers())) {
                names.add(m.getName());
            }
        }
        hidden(HeapFile.class, names);
        for (Class<?> inside : HeapFile.class.getDeclaredClasses()) {
            hidden(inside, names);
        }
    }

    private static void hidden(Class<?> owner, TreeSet<String> names) {
        for (Method m : owner.getDeclaredMethods()) {
            if (!Modifier.isPublic(m.getModifiers())) {
                DUE.same(m + " bears a public name", names.contains(m.getName()), false);
            }
        }
    }
}
