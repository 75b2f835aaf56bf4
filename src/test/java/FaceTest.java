import java.lang.reflect.Constructor;
import java.lang.reflect.Field;
import java.lang.reflect.Method;
import java.lang.reflect.Modifier;
import java.util.Arrays;
import java.util.Set;
import java.util.TreeSet;

/** The public face: its members and no other; rule 1 of LANGUAGE.md. */
public final class FaceTest {
    private static final Check check = new Check();

    public static void main(String[] args) {
        check.holds("the class is public and final",
            TapLedger.class.getModifiers() == (Modifier.PUBLIC | Modifier.FINAL));
        constants();
        constructors();
        methods();
        nestedClasses();
        check.end();
    }

    private static void constants() {
        check.due("UNKNOWN", TapLedger.UNKNOWN, -1);
        check.due("OUTSIDE", TapLedger.OUTSIDE, -2);
        check.due("STATE", TapLedger.STATE, -3);
        check.due("FULL", TapLedger.FULL, -4);
        check.due("NO", TapLedger.NO, -5);
        check.due("NONE", TapLedger.NONE, -6);
        Set<String> open = new TreeSet<>();
        for (Field field : TapLedger.class.getDeclaredFields()) {
            int m = field.getModifiers();
            if (!Modifier.isPrivate(m)) {
                open.add(field.getName());
                check.holds(field + " is public static final int",
                    m == (Modifier.PUBLIC | Modifier.STATIC | Modifier.FINAL) && field.getType() == int.class);
            }
            check.holds(field + ": static fields are final", !Modifier.isStatic(m) || Modifier.isFinal(m));
        }
        check.holds("constants are " + open,
            open.equals(Set.of("UNKNOWN", "OUTSIDE", "STATE", "FULL", "NO", "NONE")));
    }

    private static void constructors() {
        Constructor<?>[] all = TapLedger.class.getDeclaredConstructors();
        check.due("constructors", all.length, 1);
        check.holds("the constructor is public and takes nothing",
            Modifier.isPublic(all[0].getModifiers()) && all[0].getParameterCount() == 0);
    }

    private static void methods() {
        String[] due = {
            "zone 2", "price 3", "tap 5", "untap 3", "told 3", "ride 3", "journey 3", "day 3", "best 2",
            "saved 2", "would 5", "bar 2", "hear 1", "pass 2", "image 1", "restore 1", "count 1"
        };
        Set<String> open = new TreeSet<>();
        Set<String> hidden = new TreeSet<>();
        for (Method method : TapLedger.class.getDeclaredMethods()) {
            if (Modifier.isPrivate(method.getModifiers())) {
                hidden.add(method.getName());
                continue;
            }
            open.add(method.getName() + " " + method.getParameterCount());
            boolean ints = method.getReturnType() == int.class;
            for (Class<?> type : method.getParameterTypes()) {
                ints &= type == int.class;
            }
            check.holds(method + " is public, of ints alone", ints && method.getModifiers() == Modifier.PUBLIC);
        }
        check.holds("methods are " + open, open.equals(new TreeSet<>(Arrays.asList(due))));
        for (String name : due) {
            check.holds("no private method is named as " + name, !hidden.contains(name.split(" ")[0]));
        }
    }

    private static void nestedClasses() {
        Class<?>[] nested = TapLedger.class.getDeclaredClasses();
        check.holds("at most twelve classes", nested.length < 12);
        for (Class<?> type : nested) {
            check.holds(type + " is static and not public",
                Modifier.isStatic(type.getModifiers()) && !Modifier.isPublic(type.getModifiers()));
        }
    }
}
