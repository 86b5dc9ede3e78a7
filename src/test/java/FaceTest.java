import java.lang.reflect.Constructor;
import java.lang.reflect.Field;
import java.lang.reflect.Method;
import java.lang.reflect.Modifier;
import java.nio.file.Files;
import java.nio.file.Path;
import java.util.Arrays;
import java.util.Set;
import java.util.TreeSet;
import java.util.regex.Matcher;
import java.util.regex.Pattern;

/** The public face, and the rules of LANGUAGE.md that can be looked at from outside. */
final class FaceTest {
    private static final String FACE = """
        int letter(int)
        int street()
        int wall(int,int)
        int house(int,int)
        int takes(int,int)
        int sells(int,int)
        int needs(int,int,int)
        int bars(int,int)
        int turn(int,int,int)
        int hours(int)
        int atThen(int,int)
        int lacksThen(int,int)
        int allLack(int)
        int goes(int,int)
        int shown(int)
        int asked()
        int coughs(int,int,int)
        int lend(int)
        int close(int,int)
        int split(int,int,int)
        int spare()
        int price(int,int)
        int shares(int,int)
        int coldest(int)
        int best(int)
        int each(int)
        int panes(int)
        int sees(int)
        int hide(int,int)
        int two(int,int,int)
        long ways(int,int,int)
        long rain(int,int,int,int)
        long mean(int)
        int wasSeen(int,int,int)
        int longest(int)
        int together(int,int,int)
        int whatIs(int,int)
        int row(int)
        int judge()
        int clear()
        int lots(int,int,int)
        int image()
        int on()
        int count(int)
        """;

    private FaceTest() {
    }

    static void run() throws Exception {
        face();
        members();
        words();
    }

    private static void face() {
        Set<String> due = new TreeSet<>(Arrays.asList(FACE.strip().split("\n")));
        Set<String> have = new TreeSet<>();
        for (Method method : WallsByTheHour.class.getDeclaredMethods()) {
            if (Modifier.isPublic(method.getModifiers())) {
                String types = Arrays.toString(method.getParameterTypes()).replace("[", "").replace("]", "").replace(" ", "");
                have.add(method.getReturnType() + " " + method.getName() + "(" + types + ")");
            }
        }
        Due.due("methods of the face", due.size(), 44);
        Due.so("the face " + have, have.equals(due));
        Constructor<?>[] constructors = WallsByTheHour.class.getDeclaredConstructors();
        Due.so("one public constructor", constructors.length == 1 && constructors[0].getParameterCount() == 0
            && Modifier.isPublic(constructors[0].getModifiers()));
        int modifiers = WallsByTheHour.class.getModifiers();
        Due.so("public and final", Modifier.isPublic(modifiers) && Modifier.isFinal(modifiers));
    }

    private static void members() {
        Set<String> open = new TreeSet<>();
        for (Method method : WallsByTheHour.class.getDeclaredMethods()) {
            if (Modifier.isPublic(method.getModifiers())) {
                open.add(method.getName());
            }
        }
        for (Method method : WallsByTheHour.class.getDeclaredMethods()) {
            boolean isOpen = Modifier.isPublic(method.getModifiers());
            Due.so(method + " is public or private", isOpen || Modifier.isPrivate(method.getModifiers()));
            Due.so(method + " bears a name of its own", isOpen || !open.contains(method.getName()));
            Due.so(method + " takes at most seven", method.getParameterCount() <= 7);
        }
        for (Field field : WallsByTheHour.class.getDeclaredFields()) {
            Due.so(field + " is private", Modifier.isPrivate(field.getModifiers()));
        }
        Class<?>[] inside = WallsByTheHour.class.getDeclaredClasses();
        Due.so("at most twelve classes", inside.length <= 11);
        for (Class<?> one : inside) {
            Due.so(one + " is static", Modifier.isStatic(one.getModifiers()));
            int fields = 0;
            for (Field field : one.getDeclaredFields()) {
                boolean isStatic = Modifier.isStatic(field.getModifiers());
                Due.so(field + " is final if static", !isStatic || Modifier.isFinal(field.getModifiers()));
                fields += isStatic ? 0 : 1;
            }
            Due.so(one + " has at most twenty fields", fields <= 20);
        }
    }

    private static void words() throws Exception {
        String source = Files.readString(Path.of("src/main/java/WallsByTheHour.java"));
        String code = source.replaceAll("(?s)/\\*.*?\\*/", " ").replaceAll("//[^\n]*", " ");
        Matcher word = Pattern.compile("\\b(throws?|try|catch|finally|synchronized|assert|package|lambda|volatile"
            + "|transient|native|Object|System\\.(?!arraycopy)\\w+|Math\\.\\w+Exact|Random|Thread|equals|hashCode"
            + "|toString)\\b|->|::").matcher(code);
        while (word.find()) {
            Due.so("the source does without " + word.group(), false);
        }
        Due.so("signs 1 to 127", source.chars().allMatch(c -> c > 0 && c < 128));
        int line = 0;
        int began = 0;
        for (String text : source.split("\n")) {
            line++;
            if (text.matches(" {4,8}[^ }/].*\\) \\{")) {
                began = line;
            }
            if (text.matches(" {4,8}}")) {
                Due.so("the method that ends at " + line + " is short", line - began <= 60 || began == 0);
                began = 0;
            }
        }
    }
}
