import java.lang.reflect.Constructor;
import java.lang.reflect.Field;
import java.lang.reflect.Member;
import java.lang.reflect.Method;
import java.lang.reflect.Modifier;
import java.util.Arrays;
import java.util.Set;
import java.util.TreeSet;

// The class has the document's public members and no other that can be seen from outside; all members
// keep to the rules of LANGUAGE.md on names and types.
public final class FaceTest {
    private static int wrong = 0;

    private static void due(String what, Object got, Object want) {
        if (!got.equals(want)) {
            wrong++;
            System.out.println(what + " is " + got + ", due is " + want);
        }
    }

    public static void main(String[] args) {
        Class<?> face = RaceRecorder.class;
        due("the class's modifiers", face.getModifiers(), Modifier.PUBLIC | Modifier.FINAL);
        due("the nested classes", face.getDeclaredClasses().length, 0);
        due("the constants", constants(face), constantsDue());
        due("the methods", methods(face), methodsDue());
        due("the constructors", face.getDeclaredConstructors().length, 1);
        for (Constructor<?> c : face.getDeclaredConstructors()) {
            due("the constructor", c.toString(), "public RaceRecorder()");
        }
        due("the names both public and private", namesOfBoth(face), Set.of());
        due("the members of other types", membersOfOtherTypes(face), Set.of());
        due("the static fields that are not constants of int or long", staticsOfOtherForm(face), Set.of());
        System.out.println(wrong == 0 ? "the face is as due" : wrong + " things are not as due");
        if (wrong != 0) {
            System.exit(1);
        }
    }

    private static boolean canBeSeen(Member member) {
        return !Modifier.isPrivate(member.getModifiers());
    }

    private static Set<String> constants(Class<?> face) {
        Set<String> all = new TreeSet<>();
        for (Field field : face.getDeclaredFields()) {
            if (canBeSeen(field)) {
                all.add(field.toString());
            }
        }
        return all;
    }

    private static Set<String> constantsDue() {
        Set<String> all = new TreeSet<>();
        for (String name : new String[] {"BAD_ARG", "FULL", "BUSY", "NONE"}) {
            all.add("public static final int RaceRecorder." + name);
        }
        return all;
    }

    private static Set<String> methods(Class<?> face) {
        Set<String> all = new TreeSet<>();
        for (Method method : face.getDeclaredMethods()) {
            if (canBeSeen(method)) {
                all.add(method.toString());
            }
        }
        return all;
    }

    private static Set<String> methodsDue() {
        Set<String> all = new TreeSet<>();
        for (String method : Arrays.asList(
                "int program(int,int,int)", "int begin(int,int)", "int unprogram(int)", "int step(int)",
                "int back()", "void again()", "int events()", "int thread(int)", "int enabled()",
                "int value(int)", "int register(int)", "int holder(int)", "boolean must(int,int)",
                "boolean known(int,int)", "int conflicts()", "int needed()", "int orders()",
                "int races()", "int firstRace()", "int guard(int)", "boolean crossed()",
                "int outcomes()", "int deadlocks()", "int greatest(int)", "int ahead()")) {
            all.add("public " + method.replace(" ", " RaceRecorder."));
        }
        return all;
    }

    // LANGUAGE.md, rule 1: "No private method bears the name of a public one."
    private static Set<String> namesOfBoth(Class<?> face) {
        Set<String> seen = new TreeSet<>();
        Set<String> hidden = new TreeSet<>();
        for (Method method : face.getDeclaredMethods()) {
            (canBeSeen(method) ? seen : hidden).add(method.getName());
        }
        seen.retainAll(hidden);
        return seen;
    }

    // LANGUAGE.md, rules 2 and 10: whole numbers, booleans and one-dimensional arrays of these; an array
    // is never answered; at most seven parameters.
    private static Set<String> membersOfOtherTypes(Class<?> face) {
        Set<String> all = new TreeSet<>();
        for (Field field : face.getDeclaredFields()) {
            if (!isAllowed(field.getType())) {
                all.add(field.toString());
            }
        }
        for (Method method : face.getDeclaredMethods()) {
            boolean answersWell = method.getReturnType() == void.class || isPlain(method.getReturnType());
            boolean takesWell = Arrays.stream(method.getParameterTypes()).allMatch(FaceTest::isAllowed);
            if (!answersWell || !takesWell || method.getParameterCount() > 7) {
                all.add(method.toString());
            }
        }
        return all;
    }

    private static boolean isAllowed(Class<?> type) {
        return isPlain(type.isArray() ? type.getComponentType() : type);
    }

    private static boolean isPlain(Class<?> type) {
        return type.isPrimitive() && type != float.class && type != double.class;
    }

    // LANGUAGE.md, rule 5: "Static fields are compile-time constants of int or long alone."
    private static Set<String> staticsOfOtherForm(Class<?> face) {
        Set<String> all = new TreeSet<>();
        for (Field field : face.getDeclaredFields()) {
            boolean isNumber = field.getType() == int.class || field.getType() == long.class;
            boolean isFinal = Modifier.isFinal(field.getModifiers());
            if (Modifier.isStatic(field.getModifiers()) && !(isNumber && isFinal)) {
                all.add(field.toString());
            }
        }
        return all;
    }
}
