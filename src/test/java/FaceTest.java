import java.lang.reflect.Constructor;
import java.lang.reflect.Field;
import java.lang.reflect.Method;
import java.lang.reflect.Modifier;
import java.util.ArrayList;
import java.util.Collections;
import java.util.HashSet;
import java.util.List;
import java.util.Set;

/** The face is exactly that of the document, and what reflection can see of LANGUAGE.md is kept. */
public final class FaceTest {
    private static final String[] FACE = {
        "int feed(int,int,int,int,int) IllegalStateException",
        "int trim(int) IllegalArgumentException",
        "int teach()",
        "int errorAt()",
        "int count(int) IndexOutOfBoundsException",
        "int planet(int,int) IndexOutOfBoundsException",
        "int set(int,int) IndexOutOfBoundsException IllegalArgumentException",
        "int gap(int,int) IndexOutOfBoundsException",
        "boolean meets(int,int,boolean) IndexOutOfBoundsException",
        "int letter(int,int) IndexOutOfBoundsException",
        "int wrote(int) IndexOutOfBoundsException",
        "int pass(int) IllegalArgumentException",
        "int byteAt(int) IndexOutOfBoundsException",
        "int clear()",
        "int find()",
        "int translate(int,int) IndexOutOfBoundsException",
        "int foresee(int,int) IllegalArgumentException IndexOutOfBoundsException",
        "int next(int,int,boolean) IndexOutOfBoundsException",
        "int spells()",
        "int again(int) IllegalArgumentException",
        "int advise(int,int) IndexOutOfBoundsException IllegalArgumentException",
        "double mean()",
        "long digest()",
    };

    private static final Check CHECK = new Check();

    public static void main(String[] args) {
        Class<?> face = ShadowSpell.class;
        CHECK.due("the class is public and final", Modifier.PUBLIC | Modifier.FINAL, face.getModifiers());
        methods(face);
        constructors(face);
        fields(face);
        insides(face);
        CHECK.end();
    }

    private static void methods(Class<?> face) {
        List<String> want = new ArrayList<>(List.of(FACE));
        List<String> got = new ArrayList<>();
        for (Method method : face.getDeclaredMethods()) {
            if (!Modifier.isPrivate(method.getModifiers())) {
                CHECK.due(method + " is public alone", Modifier.PUBLIC, method.getModifiers());
                got.add(told(method));
            }
        }
        Collections.sort(want);
        Collections.sort(got);
        if (!want.equals(got)) {
            CHECK.tell("the methods are " + got + ", due are " + want);
        }
    }

    private static String told(Method method) {
        StringBuilder out = new StringBuilder();
        out.append(method.getReturnType().getSimpleName()).append(' ').append(method.getName()).append('(');
        for (int i = 0; i < method.getParameterCount(); i++) {
            out.append(i == 0 ? "" : ",").append(method.getParameterTypes()[i].getSimpleName());
        }
        out.append(')');
        for (Class<?> thrown : method.getExceptionTypes()) {
            out.append(' ').append(thrown.getSimpleName());
        }
        return out.toString();
    }

    private static void constructors(Class<?> face) {
        Constructor<?>[] all = face.getDeclaredConstructors();
        CHECK.due("constructors", 1, all.length);
        CHECK.due("the constructor is public", Modifier.PUBLIC, all[0].getModifiers());
        CHECK.due("the constructor's parameters", 0, all[0].getParameterCount());
    }

    private static void fields(Class<?> face) {
        for (Field field : face.getDeclaredFields()) {
            CHECK.due(field + " is private", true, Modifier.isPrivate(field.getModifiers()));
        }
    }

    private static void insides(Class<?> face) {
        Set<String> names = new HashSet<>();
        for (String line : FACE) {
            names.add(line.substring(line.indexOf(' ') + 1, line.indexOf('(')));
        }
        List<Class<?>> all = new ArrayList<>(List.of(face.getDeclaredClasses()));
        CHECK.due("at most twelve classes", true, all.size() + 1 <= 12);
        all.add(face);
        for (Class<?> one : all) {
            for (Method method : one.getDeclaredMethods()) {
                boolean isFace = one == face && Modifier.isPublic(method.getModifiers());
                CHECK.due(method + " has a name of its own", true, isFace || !names.contains(method.getName()));
                CHECK.due(method + " takes at most seven", true, method.getParameterCount() <= 7);
            }
            for (Field field : one.getDeclaredFields()) {
                int is = field.getModifiers();
                CHECK.due(field + " is final, if static", true, !Modifier.isStatic(is) || Modifier.isFinal(is));
            }
        }
    }
}
