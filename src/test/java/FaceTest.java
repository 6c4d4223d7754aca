import java.lang.reflect.Constructor;
import java.lang.reflect.Field;
import java.lang.reflect.Method;
import java.lang.reflect.Modifier;
import java.util.Arrays;
import java.util.Set;
import java.util.TreeSet;

/** The document's public face, and nothing beside it. */
public final class FaceTest {
    private static final String[] FACE = {
        "int status()", "long top()", "long bottom()", "boolean tray(int,int,int)", "boolean write(int,int,long)",
        "long read(int,int)", "boolean pour(int,int,int,int,int)", "int feed(int,int,int,int,int)",
        "int village(int)", "int orders(int)", "int fault(int)", "int told(int)", "int vane(int,int)",
        "int shaft(int,int)", "int wants(int)", "int right(int)", "boolean wind(int,int,int)",
        "int windAt(int,int)", "boolean lift(int,boolean)", "boolean hold(int,boolean)", "int pass(int)",
        "int turn(int,int)", "int drags(int,int)", "int joined(int)", "boolean ratio(int,int)", "int locked()",
        "long common(int)", "int sway(int,int)", "int points(int,int)", "int rights(int)", "int again(int)",
        "int strikes(int,int)", "int bell(int,int)", "int wrong(int,int)", "int holding(int,int)",
        "int helpers(int)", "int firstToTurn()", "int heaviest()", "int farthest()", "int calmed()",
        "int teeth(int)", "int bestWind(int,int)", "int parting()", "int mending(int)", "int leaving(int)",
        "int knowing(int)", "int whole(int,int)", "int broken(int,int)", "int run(int)", "int ran(int)",
        "int ranTo(int)", "boolean odds(int,int,int)", "int mark()", "int back()"};

    public static void main(String[] args) {
        Set<String> publicMethods = new TreeSet<>();
        Set<String> publicNames = new TreeSet<>();
        for (Method method : VaneTown.class.getDeclaredMethods()) {
            if (Modifier.isPublic(method.getModifiers())) {
                publicMethods.add(told(method));
                publicNames.add(method.getName());
            }
        }
        Set<String> face = new TreeSet<>(Arrays.asList(FACE));
        Check.due("methods of the face", FACE.length, 54);
        for (String method : face) {
            Check.due(method + " is there", publicMethods.contains(method), true);
        }
        for (String method : publicMethods) {
            Check.due(method + " is of the face", face.contains(method), true);
        }
        othersArePrivate(publicNames);
        fields(VaneTown.class);
        for (Class<?> inner : VaneTown.class.getDeclaredClasses()) {
            fields(inner);
        }
        Check.due("the class is public and final", VaneTown.class.getModifiers(), Modifier.PUBLIC | Modifier.FINAL);
        Check.due("NONE", VaneTown.NONE, -1);
        Check.end("FaceTest");
    }

    private static String told(Method method) {
        StringBuilder types = new StringBuilder();
        for (Class<?> type : method.getParameterTypes()) {
            types.append(types.length() == 0 ? "" : ",").append(type.getName());
        }
        return method.getReturnType().getName() + " " + method.getName() + "(" + types + ")";
    }

    /** Rules 5 and 11 of ../shared/LANGUAGE.md. */
    private static void fields(Class<?> type) {
        Set<Class<?>> constants = Set.of(int.class, long.class, boolean.class, char.class, String.class, int[].class,
                long[].class, char[].class, byte[].class);
        int own = 0;
        for (Field field : type.getDeclaredFields()) {
            if (Modifier.isStatic(field.getModifiers())) {
                Check.due(field + " is final", Modifier.isFinal(field.getModifiers()), true);
                Check.due(field + " is a constant", constants.contains(field.getType()), true);
            } else {
                own++;
            }
        }
        Check.due(type + " has some twenty fields", own <= 20, true);
    }

    private static void othersArePrivate(Set<String> publicNames) {
        for (Method method : VaneTown.class.getDeclaredMethods()) {
            if (!Modifier.isPublic(method.getModifiers())) {
                Check.due(method + " is private", Modifier.isPrivate(method.getModifiers()), true);
                Check.due(method + " bears a name of its own", publicNames.contains(method.getName()), false);
            }
        }
        for (Field field : VaneTown.class.getDeclaredFields()) {
            boolean isNone = field.getName().equals("NONE");
            Check.due(field + " is private", Modifier.isPrivate(field.getModifiers()), !isNone);
        }
        Constructor<?>[] constructors = VaneTown.class.getDeclaredConstructors();
        Check.due("constructors", constructors.length, 1);
        Check.due("it takes nothing", constructors[0].getParameterCount(), 0);
        for (Class<?> inner : VaneTown.class.getDeclaredClasses()) {
            Check.due(inner + " is static", Modifier.isStatic(inner.getModifiers()), true);
            Check.due(inner + " is not public", Modifier.isPublic(inner.getModifiers()), false);
            for (Method method : inner.getDeclaredMethods()) {
                Check.due(method + " bears a name of its own", publicNames.contains(method.getName()), false);
            }
        }
    }
}
