import java.util.ArrayList;
import java.util.List;

/**
 * Each call of the face at the bounds of each of its arguments: the last numbers that are taken, the
 * first that are refused on either side, which refusal comes first when several numbers are wrong, and
 * that behind a refusal nothing has changed but how many there were.
 */
final class BoundsTest {
    /** Three WALLS, one of them LENT; bars, needs, HOURS gone by, an IMAGE of another HOUR, a ROW, letters. */
    private static final String RICH = """
        tell ww40;wo31;wb62;n0111111;n3099999;n5300303;b12;b57; = 8
        takes(2, 6) = 2
        hours(4) = 4
        image() = 4
        hours(1) = 8
        sells(1, 4) = 1
        needs(7, 5, 3) = 0
        row(0) = 1
        row(3) = 2
        letters n31234
        """;
    /** Seven WALLS, as many as there can be. */
    private static final String SEVEN = """
        tell ww40;wo31;wb62;wp53;wl24;wf15;wb97; = 7
        tell n0999999;n1234567;n4111111;b06;b60;h09; = 6
        image() = 9
        tell m07;m64;s21;h02; = 4
        row(7) = 1
        letters n31234
        """;
    private static final String BARE = "";

    /** What an argument may be: a letter for its kind, and the numbers between which it is taken. */
    private record Bound(char kind, int least, int most) {
        /** Which refusal such a number deserves, 0 for none. */
        int refusalOf(int v, int first) {
            boolean twice = kind == 'o' && v == first;
            if (v >= least && v <= most && !twice) {
                return 0;
            }
            return switch (kind) {
                case 'n' -> v < least ? -4 : -6;
                case 'w' -> -2;
                default -> -1;
            };
        }
    }

    private BoundsTest() {
    }

    static void run() throws Exception {
        for (int walls : new int[] {0, 3, 7}) {
            oneArgument(walls);
            ofWalls(walls);
            ofHouses(walls);
            hoursOnAndMore(walls);
        }
    }

    private static void oneArgument(int walls) throws Exception {
        call(walls, "letter", "-4 -6", number(0, 255));
        call(walls, "hours", "-4 -6", number(1, 60));
        call(walls, "allLack", "-4 -6", number(0, 60));
        call(walls, "lend", "-4 -6", number(0, 12));
        call(walls, "coldest", "-2", what(1));
        call(walls, "best", "-2", what(4));
        call(walls, "mean", "-2", what(1));
        call(walls, "row", "-4 -6", number(0, 99));
        call(walls, "shown", "-1", house());
        call(walls, "each", "-1", house());
        call(walls, "sees", "-1", house());
        call(walls, "longest", "-1", house());
        call(walls, "panes", "-1", wall(walls));
        for (String name : new String[] {"street", "asked", "spare", "judge", "clear", "image", "on"}) {
            call(walls, name, "");
        }
        for (int what : new int[] {Integer.MIN_VALUE, -1, 0, 1, 2, 3, 4, 5, 6, 7, 11, 12, 13, 14, 15, 16}) {
            Script.after("count with " + walls + " walls", street(walls), "count(" + what + ")", null);
        }
        for (int what : new int[] {Integer.MIN_VALUE, -1, 8, 9, 10, 17, Integer.MAX_VALUE}) {
            Script.after("count with " + walls + " walls", street(walls), "count(" + what + ")", -9L);
        }
    }

    private static void ofWalls(int walls) throws Exception {
        call(walls, "wall", "-1 -2", wall(walls), what(5));
        call(walls, "takes", "-1", wall(walls), house());
        call(walls, "sells", "-1", wall(walls), house());
        call(walls, "turn", "-1 -2 -4 -6", wall(walls), what(5), number(0, 9));
        call(walls, "atThen", "-1 -4 -6", wall(walls), number(0, 60));
        call(walls, "goes", "-1 -2", wall(walls), what(1));
        call(walls, "price", "-1 -2", wall(walls), what(1));
        call(walls, "two", "-1 -4 -6", wall(walls), other(walls - 1), number(0, 30));
        call(walls, "ways", "-1 -4 -6", wall(walls), house(), number(0, 20));
        call(walls, "whatIs", "-1 -2", wall(walls), what(1));
    }

    private static void ofHouses(int walls) throws Exception {
        call(walls, "house", "-1 -2", house(), what(5));
        call(walls, "needs", "-1 -2 -4 -6", house(), what(5), number(0, 9));
        call(walls, "bars", "-1", house(), other(7));
        call(walls, "close", "-1 -2", house(), what(1));
        call(walls, "split", "-1 -2", house(), other(7), what(2));
        call(walls, "shares", "-1", house(), other(7));
        call(walls, "hide", "-1", house(), other(7));
        call(walls, "together", "-1 -2", house(), other(7), what(2));
    }

    private static void hoursOnAndMore(int walls) throws Exception {
        call(walls, "lacksThen", "-1 -4 -6", house(), number(0, 60));
        call(walls, "coughs", "-1 -4 -6", house(), other(7), number(0, 60));
        call(walls, "rain", "-1 -4 -6 -2", house(), number(0, 6), number(2, 20), what(1));
        call(walls, "wasSeen", "-1 -4 -6", house(), number(0, 999), number(0, 999));
        call(walls, "lots", "-4 -6 -2", number(1, 20), any(), what(1));
    }

    private static String street(int walls) {
        return walls == 0 ? BARE : walls == 3 ? RICH : SEVEN;
    }

    private static Bound number(int least, int most) {
        return new Bound('n', least, most);
    }

    private static Bound what(int most) {
        return new Bound('w', 0, most);
    }

    private static Bound house() {
        return new Bound('b', 0, 7);
    }

    private static Bound wall(int walls) {
        return new Bound('b', 0, walls - 1);
    }

    /** Of the same kind as the first argument, and not the same one. */
    private static Bound other(int most) {
        return new Bound('o', 0, most);
    }

    private static Bound any() {
        return new Bound('a', Integer.MIN_VALUE, Integer.MAX_VALUE);
    }

    /** All that are at a bound, with all the others that are, and the ends of the ints. */
    private static void call(int walls, String name, String order, Bound... bounds) throws Exception {
        List<int[]> all = new ArrayList<>();
        all.add(new int[0]);
        for (Bound bound : bounds) {
            List<int[]> longer = new ArrayList<>();
            for (int[] one : all) {
                for (int v : numbersAt(bound, bounds.length)) {
                    int[] more = java.util.Arrays.copyOf(one, one.length + 1);
                    more[one.length] = v;
                    longer.add(more);
                }
            }
            all = longer;
        }
        for (int[] arguments : all) {
            long refusal = refusalOf(order, bounds, arguments);
            if (refusal != 0 && (name.equals("ways") || name.equals("rain") || name.equals("mean"))) {
                refusal = 4000000000000000000L - refusal;
            }
            String call = name + java.util.Arrays.toString(arguments).replace('[', '(').replace(']', ')');
            Script.after("with " + walls + " walls", street(walls), call, refusal == 0 ? null : refusal);
        }
    }

    private static int[] numbersAt(Bound bound, int arguments) {
        int least = bound.least;
        int most = bound.most;
        if (bound.kind == 'a') {
            return new int[] {least, 0, most};
        }
        if (arguments <= 2) {
            return new int[] {Integer.MIN_VALUE, least - 1, least, (least + most) / 2, most, most + 1, Integer.MAX_VALUE};
        }
        return new int[] {least - 1, least, most, most + 1};
    }

    /** The first refusal, in the order in which the promise tells them, that one of the numbers deserves. */
    private static int refusalOf(String order, Bound[] bounds, int[] arguments) {
        for (String number : order.split(" ")) {
            for (int i = 0; i < bounds.length; i++) {
                int refusal = bounds[i].refusalOf(arguments[i], arguments[0]);
                if (refusal != 0 && number.equals("" + refusal)) {
                    return refusal;
                }
            }
        }
        return 0;
    }
}
