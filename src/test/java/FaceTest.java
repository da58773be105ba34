import java.lang.reflect.Constructor;
import java.lang.reflect.Field;
import java.lang.reflect.Member;
import java.lang.reflect.Method;
import java.lang.reflect.Modifier;
import java.util.Arrays;
import java.util.NoSuchElementException;
import java.util.TreeSet;

/** The face of the class: exactly the document's constant, constructor and methods, and nothing else that shows. */
public final class FaceTest {
    private static final String[] FACE = {
        "int sign(int)", "boolean end(int)", "int game()", "int rule()", "int foe()", "int side(int)",
        "boolean likeness(boolean)", "int fresh(int,int)", "int sheet(int,int,int,int)", "int pay(int)",
        "int seed(int)", "int like(int)", "int value(int)", "int state(int)", "int boxes()", "int shows(int)",
        "int beads(int,int)", "int open(int)", "int put(int,int,int)", "int out(int,int,int)", "int count(int)",
        "int play(int)", "int run(int,int)", "int come(int,int)", "int odds(int)", "int ways(int,int)",
        "int knows()", "int share(int)", "int errs(int)", "int teach(int,int,int)", "int few(int,int)",
        "boolean keep(int)", "boolean again(int)", "int join(int)", "int watch(int,int,int,int)", "int fits()",
        "int part()", "long row(int)",
    };

    private static int wrong = 0;

    private static void due(String what, Object got, Object want) {
        if (!want.equals(got)) {
            wrong++;
            System.out.println(what + " is " + got + ", due is " + want);
        }
    }

    public static void main(String[] args) throws Exception {
        Class<?> face = BoxesWithBeads.class;
        due("public and final", Modifier.toString(face.getModifiers()), "public final");
        due("NONE", BoxesWithBeads.NONE, -1);
        due("package", face.getPackageName(), "");

        TreeSet<String> got = new TreeSet<>();
        TreeSet<String> names = new TreeSet<>();
        for (Method m : face.getDeclaredMethods()) {
            if (Modifier.isPublic(m.getModifiers())) {
                got.add(m.getReturnType() + " " + m.getName() + parameters(m.getParameterTypes()));
                names.add(m.getName());
                boolean throwing = m.getName().equals("row");
                due("exceptions of " + m.getName(), Arrays.asList(m.getExceptionTypes()).toString(),
                        throwing ? "[" + NoSuchElementException.class + "]" : "[]");
            }
        }
        due("the methods", got, new TreeSet<>(Arrays.asList(FACE)));
        for (Method m : face.getDeclaredMethods()) {
            due("private name " + m.getName() + " is new", !isPrivate(m) || !names.contains(m.getName()), true);
            due(m.getName() + " is public or private", isPrivate(m) || Modifier.isPublic(m.getModifiers()), true);
        }
        for (Constructor<?> c : face.getDeclaredConstructors()) {
            due("constructor", parameters(c.getParameterTypes()), "()");
        }
        for (Field f : face.getDeclaredFields()) {
            due(f.getName() + " is private", isPrivate(f) || f.getName().equals("NONE"), true);
        }
        due("classes inside", face.getDeclaredClasses().length <= 11, true);
        for (Class<?> inside : face.getDeclaredClasses()) {
            due(inside + " is static", Modifier.isStatic(inside.getModifiers()), true);
            due(inside + " is private", Modifier.isPrivate(inside.getModifiers()), true);
        }
        System.out.println(wrong == 0 ? "the face is as due" : wrong + " wrong");
        System.exit(wrong == 0 ? 0 : 1);
    }

    private static boolean isPrivate(Member m) {
        return Modifier.isPrivate(m.getModifiers()) || m.isSynthetic();
    }

    private static String parameters(Class<?>[] types) {
        StringBuilder all = new StringBuilder("(");
        for (int i = 0; i < types.length; i++) {
            all.append(i > 0 ? "," : "").append(types[i].getName());
        }
        return all.append(")").toString();
    }
}
