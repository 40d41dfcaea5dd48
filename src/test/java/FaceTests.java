import java.lang.reflect.Constructor;
import java.lang.reflect.Field;
import java.lang.reflect.Method;
import java.lang.reflect.Modifier;
import java.util.Arrays;
import java.util.Set;
import java.util.TreeSet;

/** The public face as the document writes it out, and what LANGUAGE.md asks of the members. */
public final class FaceTests {
    private static final String[] METHODS = {
        "rays 2", "costs 2", "share 3", "shareOf 2", "trip 2", "tripOf 2", "drop 0", "clear 0", "way 2", "late 3",
        "worst 1", "mean 0", "missed 1", "finds 1", "leastMean 0", "meanTrip 1", "leastWorst 1", "worstTrip 1",
        "within 2", "take 1", "both 3", "end 0", "told 1"
    };
    private static final String[] CONSTANTS = {"NONE", "UNKNOWN", "OUTSIDE", "STATE", "FULL", "NO"};

    private final Due due = new Due("the face");

    public static void main(String[] args) {
        FaceTests tests = new FaceTests();
        Class<?> face = LineSearch.class;
        due(tests, Modifier.isPublic(face.getModifiers()) && Modifier.isFinal(face.getModifiers()), "the class is public and final");
        tests.methods(face);
        tests.fields(face);
        Constructor<?>[] made = face.getDeclaredConstructors();
        due(tests, made.length == 1 && Modifier.isPublic(made[0].getModifiers()) && made[0].getParameterCount() == 0,
            "one public constructor without parameters");
        for (Class<?> inside : face.getDeclaredClasses()) tests.inside(inside);
        due(tests, face.getDeclaredClasses().length <= 12, "at most twelve classes");
        tests.due.close();
    }

    private static void due(FaceTests tests, boolean fact, String what) {
        tests.due.holds(fact, "not so: " + what);
    }

    private void methods(Class<?> face) {
        Set<String> open = new TreeSet<>();
        Set<String> openNames = new TreeSet<>();
        Set<String> hidden = new TreeSet<>();
        for (Method method : face.getDeclaredMethods()) {
            if (Modifier.isPrivate(method.getModifiers())) {
                hidden.add(method.getName());
                continue;
            }
            due.holds(Modifier.isPublic(method.getModifiers()), method + " is neither public nor private");
            open.add(method.getName() + " " + method.getParameterCount());
            openNames.add(method.getName());
            due.holds(method.getReturnType() == int.class, method + " answers no int");
            for (Class<?> type : method.getParameterTypes()) due.holds(type == int.class, method + " takes no int");
        }
        due.holds(open.equals(new TreeSet<>(Arrays.asList(METHODS))), "the public methods are " + open);
        hidden.retainAll(openNames);
        due.holds(hidden.isEmpty(), "private methods bear public names: " + hidden);
    }

    private void fields(Class<?> face) {
        Set<String> open = new TreeSet<>();
        for (Field field : face.getDeclaredFields()) {
            int kind = field.getModifiers();
            if (Modifier.isPublic(kind)) open.add(field.getName());
            due.holds(Modifier.isPublic(kind) || Modifier.isPrivate(kind), field + " is neither public nor private");
            due.holds(!Modifier.isStatic(kind) || Modifier.isFinal(kind), field + " is static and not final");
        }
        due.holds(open.equals(new TreeSet<>(Arrays.asList(CONSTANTS))), "the public fields are " + open);
    }

    private void inside(Class<?> type) {
        int kind = type.getModifiers();
        due.holds(Modifier.isStatic(kind), type + " is not static");
        due.holds(!Modifier.isPublic(kind) && !Modifier.isProtected(kind), type + " is to be seen from outside");
        due.holds(type.getDeclaredFields().length <= 20, type + " has more than twenty fields");
        for (Method method : type.getDeclaredMethods()) {
            due.holds(method.getParameterCount() <= 7, method + " takes more than seven parameters");
            for (String name : METHODS) {
                due.holds(!name.startsWith(method.getName() + " "), method + " bears a public name");
            }
        }
        for (Field field : type.getDeclaredFields()) {
            due.holds(!Modifier.isStatic(field.getModifiers()), field + " is static");
        }
    }
}
