import java.lang.reflect.Constructor;
import java.lang.reflect.Field;
import java.lang.reflect.Method;
import java.lang.reflect.Modifier;
import java.util.Arrays;
import java.util.Set;
import java.util.TreeSet;

/** The public face, and rule 1 of LANGUAGE.md: nothing else can be seen from outside. */
final class FaceTest {
    private static final String FACE = """
        int letter(int)
        int street()
        int wall(int,int)
        int house(int,int)
        int takes(int,int)
        int sells(int,int)
        int needs(int,int,int)
        int bars(int,int)
        int turn(int,int,int)
        int hours(int)
        int atThen(int,int)
        int lacksThen(int,int)
        int allLack(int)
        int goes(int,int)
        int shown(int)
        int asked()
        int coughs(int,int,int)
        int lend(int)
        int close(int,int)
        int split(int,int,int)
        int spare()
        int price(int,int)
        int shares(int,int)
        int coldest(int)
        int best(int)
        int each(int)
        int panes(int)
        int sees(int)
        int hide(int,int)
        int two(int,int,int)
        long ways(int,int,int)
        long rain(int,int,int,int)
        long mean(int)
        int wasSeen(int,int,int)
        int longest(int)
        int together(int,int,int)
        int whatIs(int,int)
        int row(int)
        int judge()
        int clear()
        int lots(int,int,int)
        int image()
        int on()
        int count(int)
        """;

    private FaceTest() {
    }

    static void run() {
        face();
        members();
    }

    private static void face() {
        Set<String> due = new TreeSet<>(Arrays.asList(FACE.strip().split("\n")));
        Set<String> have = new TreeSet<>();
        for (Method method : WallsByTheHour.class.getDeclaredMethods()) {
            if (Modifier.isPublic(method.getModifiers())) {
                String types = Arrays.toString(method.getParameterTypes()).replace("[", "").replace("]", "").replace(" ", "");
                have.add(method.getReturnType() + " " + method.getName() + "(" + types + ")");
            }
        }
        Due.due("methods of the face", due.size(), 44);
        Due.so("the face " + have, have.equals(due));
        Constructor<?>[] constructors = WallsByTheHour.class.getDeclaredConstructors();
        Due.so("one public constructor", constructors.length == 1 && constructors[0].getParameterCount() == 0
            && Modifier.isPublic(constructors[0].getModifiers()));
        int modifiers = WallsByTheHour.class.getModifiers();
        Due.so("public and final", Modifier.isPublic(modifiers) && Modifier.isFinal(modifiers));
    }

    private static void members() {
        Set<String> open = new TreeSet<>();
        for (Method method : WallsByTheHour.class.getDeclaredMethods()) {
            if (Modifier.isPublic(method.getModifiers())) {
                open.add(method.getName());
            }
        }
        for (Method method : WallsByTheHour.class.getDeclaredMethods()) {
            boolean isOpen = Modifier.isPublic(method.getModifiers());
            Due.so(method + " is public or private", isOpen || Modifier.isPrivate(method.getModifiers()));
            Due.so(method + " bears a name of its own", isOpen || !open.contains(method.getName()));
        }
        for (Field field : WallsByTheHour.class.getDeclaredFields()) {
            Due.so(field + " is private", Modifier.isPrivate(field.getModifiers()));
        }
        for (Class<?> one : WallsByTheHour.class.getDeclaredClasses()) {
            Due.so(one + " is static", Modifier.isStatic(one.getModifiers()));
            Due.so(one + " is not public", !Modifier.isPublic(one.getModifiers()) && !Modifier.isProtected(one.getModifiers()));
            for (Method method : one.getDeclaredMethods()) {
                Due.so(method + " bears a name of its own", !open.contains(method.getName()));
            }
        }
    }
}
