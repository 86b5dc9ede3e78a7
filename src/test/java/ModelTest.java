import java.lang.reflect.Method;
import java.util.ArrayList;
import java.util.Arrays;
import java.util.List;
import java.util.Random;

/** Runs of calls by lot, with odd arguments among them: the class answers as the Model does. */
final class ModelTest {
    private static final int RUNS = Integer.getInteger("runs", 800);
    private static final int CALLS = 150;
    /** No more is begun behind so many calls: the document promises 512, and what is begun takes some 100. */
    private static final int ENOUGH = 400;
    private static final int[] ODD = {-1, -2, 8, 9, 10, 16, 17, 60, 61, 99, 100, 255, 256, 999, 1000,
        Integer.MIN_VALUE, Integer.MAX_VALUE};

    private final Random lot;
    private final WallsByTheHour it = new WallsByTheHour();
    private final Model model = new Model();
    private final List<String> calls = new ArrayList<>();
    private int asked = 0;
    private static final List<Method> FACE = new ArrayList<>();

    private ModelTest(long seed) {
        lot = new Random(seed);
    }

    static void run() throws Exception {
        for (Method method : WallsByTheHour.class.getDeclaredMethods()) {
            if (java.lang.reflect.Modifier.isPublic(method.getModifiers())) {
                FACE.add(method);
            }
        }
        FACE.sort((a, b) -> a.getName().compareTo(b.getName()));
        int seed = Integer.getInteger("seed", 0);
        for (int run = seed; run < seed + RUNS; run++) {
            ModelTest test = new ModelTest(run);
            boolean asDue = test.isAsTheModel();
            Due.so("the run by lot " + run + " has 512 calls at most", test.asked <= 512);
            Due.so("the run by lot " + run + " goes as the model goes", asDue);
            if (!asDue) {
                return;
            }
        }
    }

    private boolean isAsTheModel() throws Exception {
        tell(streetByLot(9));
        for (int i = 0; i < CALLS && asked < ENOUGH; i++) {
            if (lot.nextInt(25) == 0) {
                tell(streetByLot(4));
            } else if (lot.nextInt(12) == 0) {
                rowByLot();
            } else {
                Method method = FACE.get(lot.nextInt(FACE.size()));
                Integer[] arguments = new Integer[method.getParameterCount()];
                for (int a = 0; a < arguments.length; a++) {
                    arguments[a] = argument(method.getName(), a);
                }
                call(method.getName(), arguments);
            }
            if (!calls.isEmpty() && calls.get(calls.size() - 1).contains("due is")) {
                calls.forEach(System.out::println);
                return false;
            }
        }
        return true;
    }

    private void call(String name, Integer... arguments) throws Exception {
        if (!calls.isEmpty() && calls.get(calls.size() - 1).contains("due is")) {
            return;
        }
        Class<?>[] types = new Class<?>[arguments.length];
        Arrays.fill(types, int.class);
        Method mine = WallsByTheHour.class.getDeclaredMethod(name, types);
        Method due = Model.class.getDeclaredMethod(name, types);
        long got = ((Number) mine.invoke(it, (Object[]) arguments)).longValue();
        long want = ((Number) due.invoke(model, (Object[]) arguments)).longValue();
        asked++;
        calls.add(name + Arrays.toString(arguments) + " answered " + got + (got == want ? "" : ", due is " + want));
    }

    /** A number that most often fits where it goes. */
    private int argument(String name, int place) {
        if (lot.nextInt(14) == 0) {
            return ODD[lot.nextInt(ODD.length)];
        }
        String key = name + place;
        if (key.equals("hours0") || key.equals("atThen1") || key.equals("lacksThen1") || key.equals("allLack0")
            || key.equals("coughs2")) {
            return lot.nextInt(4) == 0 ? lot.nextInt(61) : lot.nextInt(9);
        }
        if (key.equals("wasSeen1") || key.equals("wasSeen2")) {
            return lot.nextInt(lot.nextInt(4) == 0 ? 1000 : 90) + (place == 2 ? 30 : 0);
        }
        if (key.equals("letter0")) {
            return lot.nextInt(256);
        }
        if (key.equals("lots1")) {
            return lot.nextInt();
        }
        if (key.equals("count0")) {
            return lot.nextInt(17);
        }
        if (key.equals("lend0") || key.equals("ways2") || key.equals("two2") || key.equals("lots0") || key.equals("rain2")) {
            return lot.nextInt(13);
        }
        boolean isChoice = place == 1 && (name.equals("goes") || name.equals("close") || name.equals("price") || name.equals("whatIs"))
            || key.equals("split2") || key.equals("together2") || key.equals("rain3") || key.equals("mean0")
            || key.equals("coldest0") || key.equals("lots2");
        if (isChoice) {
            return lot.nextInt(3);
        }
        return lot.nextInt(lot.nextInt(3) == 0 ? 10 : 7);
    }

    private void tell(String text) throws Exception {
        for (char c : text.toCharArray()) {
            call("letter", (int) c);
        }
        call("street");
    }

    /** A ROW that tells, up to a slip by lot, where a WALL will be or what all will lack. */
    private void rowByLot() throws Exception {
        call("clear");
        int wall = lot.nextInt(7);
        boolean isOfWall = lot.nextBoolean() && wall < it.count(0);
        asked++;
        int length = lot.nextInt(17);
        int slip = lot.nextInt(40);
        for (int n = 0; n < length; n++) {
            int number = peek(isOfWall, wall, n);
            if (isOfWall) {
                call("atThen", wall, n);
            }
            call("row", Math.max(0, number) + (n == slip ? 1 : 0));
        }
        model.clear();
        it.clear();
        asked++;
        refill(isOfWall, wall, length, slip);
    }

    private int peek(boolean isOfWall, int wall, int n) {
        asked++;
        return isOfWall ? it.atThen(wall, n) : it.allLack(n);
    }

    private void refill(boolean isOfWall, int wall, int length, int slip) throws Exception {
        for (int n = 0; n < length; n++) {
            int number = peek(isOfWall, wall, n);
            call("row", Math.min(99, Math.max(0, number) + (n == slip ? 1 : 0)));
        }
        if (isOfWall) {
            call("whatIs", wall, 0);
            call("whatIs", wall, 1);
        } else {
            call("judge");
        }
    }

    private String streetByLot(int statements) {
        StringBuilder text = new StringBuilder();
        for (int i = 0; i < statements; i++) {
            text.append(statement()).append(';');
        }
        if (lot.nextInt(8) == 0 && text.length() > 0) {
            text.setCharAt(lot.nextInt(text.length()), "wobplfmsnbh;0123456789x".charAt(lot.nextInt(23)));
        }
        if (lot.nextInt(20) == 0) {
            text.setLength(lot.nextInt(text.length() + 1));
        }
        return text.toString();
    }

    private String statement() {
        switch (lot.nextInt(9)) {
            case 0:
            case 1:
            case 2:
                return "w" + "wobplf".charAt(lot.nextInt(6)) + lot.nextInt(10) + house();
            case 3:
            case 4:
            case 5:
                StringBuilder needs = new StringBuilder("n" + house());
                for (int part = 0; part < 6; part++) {
                    needs.append(lot.nextInt(10));
                }
                return needs.toString();
            case 6:
                return "b" + house() + house();
            case 7:
                return (lot.nextBoolean() ? "m" : "s") + lot.nextInt(4) + house();
            default:
                return "h" + lot.nextInt(2) + lot.nextInt(10);
        }
    }

    private int house() {
        return lot.nextInt(60) == 0 ? 8 : lot.nextInt(8);
    }
}
