import java.lang.reflect.Constructor;
import java.lang.reflect.Field;
import java.lang.reflect.Method;
import java.lang.reflect.Modifier;
import java.util.Set;
import java.util.TreeMap;
import java.util.TreeSet;

/** The public face, and those rules of LANGUAGE.md that the compiled class shows. */
public final class FaceTest {
    private static final Set<String> METHODS = Set.of(
            "int stop(int)", "int start(int)", "int move(int,int)", "int member(int,boolean)", "int isUp(int)",
            "int isMember(int)", "int leader()", "int submit(int,int,int,int)", "int submitAndStop(int,int,int,int)",
            "int pending()", "int get(int)", "int canGet(int)", "int local(int,int)", "int lastNumber(int,int)",
            "int answer(int,int)", "int same(int,int)", "void compact()", "int faults()");
    private static final Set<String> FIELD_TYPES = Set.of(
            "int", "long", "short", "byte", "char", "boolean",
            "int[]", "long[]", "short[]", "byte[]", "char[]", "boolean[]");
    private static final Due due = new Due("FaceTest");

    public static void main(String[] args) throws Exception {
        constants();
        classItself();
        fields();
        methods();
        due.end();
    }

    private static void constants() {
        due.is("BAD", ElectedStore.BAD, -1);
        due.is("NO_QUORUM", ElectedStore.NO_QUORUM, -2);
        due.is("OLD", ElectedStore.OLD, -3);
        due.is("LAST", ElectedStore.LAST, -4);
        due.is("SPLIT", ElectedStore.SPLIT, -5);
        due.is("NONE", ElectedStore.NONE, -6);
    }

    private static void classItself() {
        Class<?> c = ElectedStore.class;
        due.holds("the class is public and final", c.getModifiers() == (Modifier.PUBLIC | Modifier.FINAL));
        due.holds("it extends Object alone", c.getSuperclass() == Object.class && c.getInterfaces().length == 0);
        due.is("nested classes", c.getDeclaredClasses().length, 0);
        Constructor<?>[] constructors = c.getDeclaredConstructors();
        due.is("constructors", constructors.length, 1);
        due.holds("the constructor is public and takes nothing",
                Modifier.isPublic(constructors[0].getModifiers()) && constructors[0].getParameterCount() == 0);
    }

    private static void fields() {
        Set<String> seen = new TreeSet<>();
        int own = 0;
        for (Field field : ElectedStore.class.getDeclaredFields()) {
            int modifiers = field.getModifiers();
            if (!Modifier.isPrivate(modifiers)) {
                seen.add(field.getName());
                due.holds(field.getName() + " is a public constant int",
                        modifiers == (Modifier.PUBLIC | Modifier.STATIC | Modifier.FINAL) && field.getType() == int.class);
            }
            if (Modifier.isStatic(modifiers)) {
                due.holds("static " + field.getName() + " is a final int or long",
                        Modifier.isFinal(modifiers) && (field.getType() == int.class || field.getType() == long.class));
            } else {
                own++;
            }
            due.holds("the type of " + field.getName() + " is allowed",
                    FIELD_TYPES.contains(field.getType().getSimpleName()));
        }
        due.holds("no other field is open: " + seen,
                seen.equals(Set.of("BAD", "NO_QUORUM", "OLD", "LAST", "SPLIT", "NONE")));
        due.holds("at most forty fields", own <= 40);
    }

    private static void methods() {
        Set<String> open = new TreeSet<>();
        TreeMap<String, Integer> names = new TreeMap<>();
        for (Method method : ElectedStore.class.getDeclaredMethods()) {
            names.merge(method.getName(), 1, Integer::sum);
            due.holds(method.getName() + " takes at most seven parameters", method.getParameterCount() <= 7);
            if (Modifier.isPrivate(method.getModifiers())) {
                continue;
            }
            due.holds(method.getName() + " is public and not static", method.getModifiers() == Modifier.PUBLIC);
            open.add(signature(method));
        }
        due.holds("the methods are those of the document: " + open, open.equals(METHODS));
        for (String wanted : METHODS) {
            String name = wanted.substring(wanted.indexOf(' ') + 1, wanted.indexOf('('));
            due.is("methods named " + name, names.getOrDefault(name, 0), 1);
        }
    }

    private static String signature(Method method) {
        StringBuilder text = new StringBuilder(method.getReturnType().getSimpleName() + " " + method.getName() + "(");
        for (int i = 0; i < method.getParameterCount(); i++) {
            text.append(i == 0 ? "" : ",").append(method.getParameterTypes()[i].getSimpleName());
        }
        return text.append(')').toString();
    }
}
