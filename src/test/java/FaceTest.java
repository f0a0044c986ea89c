import java.lang.reflect.Constructor;
import java.lang.reflect.Field;
import java.lang.reflect.Method;
import java.lang.reflect.Modifier;
import java.util.Arrays;
import java.util.Set;
import java.util.TreeSet;
import java.util.stream.Collectors;

/** The public face of the document, and rule 1 of the language: nothing else can be seen. */
public final class FaceTest {
    private static final String[] DUE = {
        "int letters(int)", "int bottom(int)", "int length(int,int)", "int swap(int,int)", "int step()", "int back(int)",
        "int takeBack()", "int keep()", "int feed(int)", "int read()", "int of(int,int)", "int told(int)", "int point(int,int)",
        "int gone(int,int)", "int code(int)", "int next(int,int)", "int meeting(int)", "int see(int,int)", "int fits(int,int)",
        "long odds(int)", "long mean(int)", "int event(int,int)", "int after(int)", "int book(int,int)", "int looked()",
        "int judge(int,int)", "int image()", "int undo()", "int count(int)", "int tape(int,int,int)", "int item(int,int,long)",
        "long peek(int,int)", "int shift(int,int,int,int,int)"};

    private static int wrong = 0;

    private static void look(boolean so, String what) {
        if (!so) {
            wrong++;
            System.out.println("FaceTest: " + what);
        }
    }

    public static void main(String[] args) throws ReflectiveOperationException {
        Class<?> face = SwappedIntervals.class;
        look(Modifier.isPublic(face.getModifiers()) && Modifier.isFinal(face.getModifiers()), "the class is not public and final");
        look(face.getPackageName().isEmpty(), "the class has a package");
        methods(face);
        fields(face);
        for (Constructor<?> c : face.getDeclaredConstructors()) {
            look(Modifier.isPublic(c.getModifiers()) && c.getParameterCount() == 0, "a constructor too many: " + c);
        }
        for (Class<?> inside : face.getDeclaredClasses()) {
            look(Modifier.isStatic(inside.getModifiers()), "not static: " + inside);
            look(!Modifier.isPublic(inside.getModifiers()) && !Modifier.isProtected(inside.getModifiers()), "can be seen: " + inside);
            long fields = Arrays.stream(inside.getDeclaredFields()).filter(f -> !Modifier.isStatic(f.getModifiers())).count();
            look(fields <= 22, "too many fields: " + inside);
        }
        look(face.getDeclaredClasses().length <= 14, "too many classes");
        System.out.println("FaceTest: " + wrong + " wrong");
        if (wrong != 0) {
            System.exit(1);
        }
    }

    private static void methods(Class<?> face) {
        Set<String> open = new TreeSet<>();
        Set<String> names = new TreeSet<>();
        for (Method m : face.getDeclaredMethods()) {
            if (Modifier.isPrivate(m.getModifiers())) {
                continue;
            }
            look(Modifier.isPublic(m.getModifiers()) && !Modifier.isStatic(m.getModifiers()), "not a public method of objects: " + m);
            String parameters = Arrays.stream(m.getParameterTypes()).map(Class::getName).collect(Collectors.joining(","));
            open.add(m.getReturnType().getName() + " " + m.getName() + "(" + parameters + ")");
            names.add(m.getName());
        }
        look(open.equals(new TreeSet<>(Arrays.asList(DUE))), "the methods are " + open);
        for (Method m : face.getDeclaredMethods()) {
            look(!Modifier.isPrivate(m.getModifiers()) || !names.contains(m.getName()), "a private method with a public one's name: " + m);
        }
        for (Class<?> inside : face.getDeclaredClasses()) {
            for (Method m : inside.getDeclaredMethods()) {
                look(!Modifier.isPrivate(m.getModifiers()) || !names.contains(m.getName()), "a private method inside with a public one's name: " + m);
                look(m.getParameterCount() <= 7, "too many parameters: " + m);
            }
        }
    }

    private static void fields(Class<?> face) throws ReflectiveOperationException {
        Set<String> open = new TreeSet<>();
        for (Field f : face.getDeclaredFields()) {
            look(!Modifier.isStatic(f.getModifiers()) || Modifier.isFinal(f.getModifiers()), "static and not final: " + f);
            if (!Modifier.isPrivate(f.getModifiers())) {
                look(Modifier.isPublic(f.getModifiers()) && Modifier.isStatic(f.getModifiers()), "can be seen: " + f);
                open.add(f.getType() + " " + f.getName() + " " + f.get(null));
            }
        }
        Set<String> due = new TreeSet<>(Arrays.asList(
            "int NONE -1", "int BAD -2", "int STATE -3", "int FULL -4", "long NO -9223372036854775808"));
        look(open.equals(due), "the constants are " + open);
    }
}
