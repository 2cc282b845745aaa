import java.lang.reflect.Constructor;
import java.lang.reflect.Field;
import java.lang.reflect.Member;
import java.lang.reflect.Method;
import java.lang.reflect.Modifier;
import java.util.Arrays;
import java.util.Set;
import java.util.TreeSet;

// The class has the document's public members and no other that can be seen from outside.
public final class FaceTest {
    private static int wrong = 0;

    private static void due(String what, Object got, Object want) {
        if (!got.equals(want)) {
            wrong++;
            System.out.println(what + " is " + got + ", due is " + want);
        }
    }

    public static void main(String[] args) {
        Class<?> face = RaceRecorder.class;
        due("the class's modifiers", face.getModifiers(), Modifier.PUBLIC | Modifier.FINAL);
        due("the nested classes", face.getDeclaredClasses().length, 0);
        due("the constants", constants(face), constantsDue());
        due("the methods", methods(face), methodsDue());
        due("the constructors", face.getDeclaredConstructors().length, 1);
        for (Constructor<?> c : face.getDeclaredConstructors()) {
            due("the constructor", c.toString(), "public RaceRecorder()");
        }
        System.out.println(wrong == 0 ? "the face is as due" : wrong + " things are not as due");
        if (wrong != 0) {
            System.exit(1);
        }
    }

    private static boolean canBeSeen(Member member) {
        return !Modifier.isPrivate(member.getModifiers());
    }

    private static Set<String> constants(Class<?> face) {
        Set<String> all = new TreeSet<>();
        for (Field field : face.getDeclaredFields()) {
            if (canBeSeen(field)) {
                all.add(field.toString());
            }
        }
        return all;
    }

    private static Set<String> constantsDue() {
        Set<String> all = new TreeSet<>();
        for (String name : new String[] {"BAD_ARG", "FULL", "BUSY", "NONE"}) {
            all.add("public static final int RaceRecorder." + name);
        }
        return all;
    }

    private static Set<String> methods(Class<?> face) {
        Set<String> all = new TreeSet<>();
        for (Method method : face.getDeclaredMethods()) {
            if (canBeSeen(method)) {
                all.add(method.toString());
            }
        }
        return all;
    }

    private static Set<String> methodsDue() {
        Set<String> all = new TreeSet<>();
        for (String method : Arrays.asList(
                "int program(int,int,int)", "int begin(int,int)", "int unprogram(int)", "int step(int)",
                "int back()", "void again()", "int events()", "int thread(int)", "int enabled()",
                "int value(int)", "int register(int)", "int holder(int)", "boolean must(int,int)",
                "boolean known(int,int)", "int conflicts()", "int needed()", "int orders()",
                "int races()", "int firstRace()", "int guard(int)", "boolean crossed()",
                "int outcomes()", "int deadlocks()", "int greatest(int)", "int ahead()")) {
            all.add("public " + method.replace(" ", " RaceRecorder."));
        }
        return all;
    }
}
