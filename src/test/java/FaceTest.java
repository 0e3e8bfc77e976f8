import java.lang.reflect.Constructor;
import java.lang.reflect.Field;
import java.lang.reflect.Method;
import java.lang.reflect.Modifier;
import java.util.Arrays;
import java.util.TreeSet;

/** The public face of the document, and nothing beside it (LANGUAGE.md, rules 1 and 5). */
public final class FaceTest {
    private static final String[] METHODS = {
        "int column(int,int)", "int row(int)", "int term(int,int,int)", "int aim()", "int cost(int,int,int)",
        "int part(int,int,int)", "int clear()", "int run(int)", "int left()", "int plans()", "int score(int,int)",
        "int plan(int,int)", "int ties(int)", "int ideal(int)", "int nadir(int)", "int knee(int)",
        "int weighted(int,int,int,int)", "int first(int,int,int,int)", "int under(int,int,int,int)", "int cover(int)",
        "int picked(int)", "int boxes()", "int box(int,int)", "long volume()", "int climb(int)", "int climbed(int)"
    };

    public static void main(String[] args) {
        Check.due("NONE", AimFronts.NONE, -1000000);
        Check.due("OUTSIDE", AimFronts.OUTSIDE, -1000001);
        Check.due("STATE", AimFronts.STATE, -1000002);
        Check.due("ROOM", AimFronts.ROOM, -1000003);
        Check.due("the class", AimFronts.class.getModifiers(), Modifier.PUBLIC | Modifier.FINAL);
        constructors();
        fields();
        methods();
        classesInside();
        Check.end();
    }

    private static void constructors() {
        Constructor<?>[] all = AimFronts.class.getDeclaredConstructors();
        Check.due("constructors", all.length, 1);
        Check.holds("the constructor is public", Modifier.isPublic(all[0].getModifiers()));
        Check.due("its parameters", all[0].getParameterCount(), 0);
    }

    private static void fields() {
        TreeSet<String> open = new TreeSet<>();
        for (Field field : AimFronts.class.getDeclaredFields()) {
            if (!Modifier.isPrivate(field.getModifiers())) {
                open.add(field.getName());
                Check.due(field.getName(), field.getModifiers(), Modifier.PUBLIC | Modifier.STATIC | Modifier.FINAL);
            }
            isFinalIfStatic(field);
        }
        Check.holds("constants " + open, open.equals(new TreeSet<>(Arrays.asList("NONE", "OUTSIDE", "STATE", "ROOM"))));
    }

    private static void isFinalIfStatic(Field field) {
        int is = field.getModifiers();
        Check.holds(field + " is final if static", !Modifier.isStatic(is) || Modifier.isFinal(is));
    }

    private static void methods() {
        TreeSet<String> open = new TreeSet<>();
        TreeSet<String> names = new TreeSet<>();
        for (String method : METHODS) {
            names.add(method.substring(method.indexOf(' ') + 1, method.indexOf('(')));
        }
        for (Method method : AimFronts.class.getDeclaredMethods()) {
            if (Modifier.isPrivate(method.getModifiers())) {
                Check.holds(method + " bears a name of its own", !names.contains(method.getName()));
            } else {
                Check.due(method.getName(), method.getModifiers(), Modifier.PUBLIC);
                open.add(signature(method));
            }
        }
        Check.holds("methods " + open, open.equals(new TreeSet<>(Arrays.asList(METHODS))));
    }

    private static String signature(Method method) {
        StringBuilder text = new StringBuilder();
        text.append(method.getReturnType()).append(' ').append(method.getName()).append('(');
        for (Class<?> type : method.getParameterTypes()) {
            text.append(text.charAt(text.length() - 1) == '(' ? "" : ",").append(type);
        }
        return text.append(')').toString();
    }

    private static void classesInside() {
        Class<?>[] inside = AimFronts.class.getDeclaredClasses();
        Check.holds("at most twelve classes", inside.length < 12);
        for (Class<?> one : inside) {
            Check.holds(one + " is static", Modifier.isStatic(one.getModifiers()));
            Check.holds(one + " is private", Modifier.isPrivate(one.getModifiers()));
            Check.holds(one + " has some twenty fields at most", one.getDeclaredFields().length <= 20);
            for (Field field : one.getDeclaredFields()) {
                isFinalIfStatic(field);
            }
            for (Method method : one.getDeclaredMethods()) {
                Check.holds(method + " has seven parameters at most", method.getParameterCount() <= 7);
            }
        }
    }
}
