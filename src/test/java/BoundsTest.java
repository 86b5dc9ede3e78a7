import java.util.ArrayList;
import java.util.List;

/**
 * Each call of the face at the bounds of each of its arguments: the last numbers that are taken, the
 * first that are refused on either side, which refusal comes first when several numbers are wrong, and
 * that behind a refusal nothing has changed but how many there were.
 */
final class BoundsTest {
    /** Three WALLS, one of them LENT; bars, needs, HOURS gone by, an IMAGE of another HOUR, a ROW, letters. */
    private static final String RICH = """
        tell ww40;wo31;wb62;n0111111;n3099999;n5300303;b12;b57; = 8
        takes(2, 6) = 2
        hours(4) = 2
        image() = 4
        hours(1) = 2
        sells(1, 4) = 1
        needs(7, 5, 3) = 0
        row(3) = 1
        row(0) = 2
        row(3) = 3
        letters n31234
        """;
    /** Seven WALLS, as many as there can be. */
    private static final String SEVEN = """
        tell ww40;wo31;wb62;wp53;wl24;wf15;wb97; = 7
        tell n0999999;n1234567;n3999999;n4999999;b06;b60;h09; = 7
        image() = 9
        tell m07;m64;s21;h02; = 4
        row(4) = 1
        row(4) = 2
        letters n31234
        """;
    private static final String BARE = "";

    /** What an argument may be: a letter for its kind, and the numbers between which it is taken. */
    private record Bound(char kind, int least, int most) {
        /** Which refusal such a number deserves, 0 for none. */
        int refusalOf(int v, int first) {
            boolean twice = kind == 'o' && v == first;
            if (v >= least && v <= most && !twice) {
                return 0;
            }
            return switch (kind) {
                case 'n' -> v < least ? -4 : -6;
                case 'w' -> -2;
                default -> -1;
            };
        }
    }

    private BoundsTest() {
    }

    static void run() throws Exception {
        Script.run(RICH);
        Script.run(SEVEN);
        for (int walls : new int[] {0, 3, 7}) {
            oneArgument(walls);
            ofWalls(walls);
            ofHouses(walls);
            hoursOnAndMore(walls);
        }
        noRoom();
        noImage();
        faults();
        questionsAndTheImage();
    }

    /** Refused for what there is already, not for the number. */
    private static void noRoom() throws Exception {
        for (String street : new String[] {RICH, SEVEN}) {
            String full = street + "90 times letter(59)\n";
            for (int sign : new int[] {0, 59, 255, 256}) {
                Script.after("96 letters", full, "letter(" + sign + ")", -6L);
            }
            Script.after("96 letters", full, "letter(-1)", -4L);
            Script.after("95 letters", street + "89 times letter(59)\n", "letter(59)", 96L);
            String sixteen = street + (street.equals(RICH) ? 13 : 14) + " times row(3)\n";
            for (int number : new int[] {0, 3, 99, 100}) {
                Script.after("16 numbers", sixteen, "row(" + number + ")", -6L);
            }
            Script.after("16 numbers", sixteen, "row(-1)", -4L);
            Script.after("16 numbers", sixteen, "clear()", 16L);
            int left = 999 - 16 * 60 - (street.equals(RICH) ? 5 : 11);
            String late = street + "16 times hours(60)\nhours(" + (left - 20) + ")\n";
            Script.after("20 HOURS left", late, "hours(20)", null);
            Script.after("20 HOURS left", late, "hours(21)", -6L);
            Script.after("20 HOURS left", late, "hours(60)", -6L);
            Script.after("20 HOURS left", late, "hours(0)", -4L);
            Script.after("no HOURS left", late + "hours(20)\n", "hours(1)", -6L);
            Script.after("no HOURS left", late + "hours(20)\n", "count(1)", 999L);
        }
    }

    private static void noImage() throws Exception {
        String none = RICH.replaceAll(" *image.*\n", "");
        Script.after("no IMAGE", none, "on()", -3L);
        Script.after("an IMAGE", RICH, "on()", 4L);
        Script.after("an IMAGE", SEVEN, "on()", 9L);
    }

    /** With a FAULT nothing comes, and nothing is counted. */
    private static void faults() throws Exception {
        for (String street : new String[] {RICH, SEVEN}) {
            String told = street.replaceAll(" *letters .*\n", "");
            Script.after("of kind 1", told, "tell m06;s06;n0222222;b01;h05;x", -1025L);
            Script.after("of kind 1, at the end", told, "tell m06;s06;n0222222;b01;h05", -1024L);
            Script.after("of kind 1, no letters", told, "tell ", -1000L);
            Script.after("of kind 2", told, "tell m06;s06;n0222222;b01;h05;b44;", -2025L);
            Script.after("of kind 2, the first STATEMENT", told, "tell m08;s06;n0222222;b01;h05;", -2000L);
        }
        Script.after("of kind 2, no room", SEVEN.replaceAll(" *letters .*\n", ""), "tell m06;ww40;", -2004L);
    }

    /** What is asked between THE IMAGE and ON from it leaves THE IMAGE as it is. */
    private static void questionsAndTheImage() throws Exception {
        String asked = RICH + """
            count(1)
            count(3)
            house(0, 2)
            house(7, 5)
            wall(0, 3)
            wasSeen(0, 0, 999)
            longest(0)
            whatIs(0, 0)
            judge()
            on()
            """;
        Script.after("asked, and ON", asked, "count(1)", 4L);
        Script.after("asked, and ON", asked, "needs(7, 5, 0)", 0L);
        Script.after("asked, and ON", asked, "wall(1, 2)", 1L);
    }

    private static void oneArgument(int walls) throws Exception {
        call(walls, "letter", "-4 -6", number(0, 255));
        call(walls, "hours", "-4 -6", number(1, 60));
        call(walls, "allLack", "-4 -6", number(0, 60));
        call(walls, "lend", "-4 -6", number(0, 12));
        call(walls, "coldest", "-2", what(1));
        call(walls, "best", "-2", what(4));
        call(walls, "mean", "-2", what(1));
        call(walls, "row", "-4 -6", number(0, 99));
        call(walls, "shown", "-1", house());
        call(walls, "each", "-1", house());
        call(walls, "sees", "-1", house());
        call(walls, "longest", "-1", house());
        call(walls, "panes", "-1", wall(walls));
        for (String name : new String[] {"street", "asked", "spare", "judge", "clear", "image", "on"}) {
            call(walls, name, "");
        }
        for (int what : new int[] {Integer.MIN_VALUE, -1, 0, 1, 2, 3, 4, 5, 6, 7, 11, 12, 13, 14, 15, 16}) {
            Script.after("count with " + walls + " walls", street(walls), "count(" + what + ")", null);
        }
        for (int what : new int[] {Integer.MIN_VALUE, -1, 8, 9, 10, 17, Integer.MAX_VALUE}) {
            Script.after("count with " + walls + " walls", street(walls), "count(" + what + ")", -9L);
        }
    }

    private static void ofWalls(int walls) throws Exception {
        call(walls, "wall", "-1 -2", wall(walls), what(5));
        call(walls, "takes", "-1", wall(walls), house());
        call(walls, "sells", "-1", wall(walls), house());
        call(walls, "turn", "-1 -2 -4 -6", wall(walls), what(5), number(0, 9));
        call(walls, "atThen", "-1 -4 -6", wall(walls), number(0, 60));
        call(walls, "goes", "-1 -2", wall(walls), what(1));
        call(walls, "price", "-1 -2", wall(walls), what(1));
        call(walls, "two", "-1 -4 -6", wall(walls), other(walls - 1), number(0, 30));
        call(walls, "ways", "-1 -4 -6", wall(walls), house(), number(0, 20));
        call(walls, "whatIs", "-1 -2", wall(walls), what(1));
    }

    private static void ofHouses(int walls) throws Exception {
        call(walls, "house", "-1 -2", house(), what(5));
        call(walls, "needs", "-1 -2 -4 -6", house(), what(5), number(0, 9));
        call(walls, "bars", "-1", house(), other(7));
        call(walls, "close", "-1 -2", house(), what(1));
        call(walls, "split", "-1 -2", house(), other(7), what(2));
        call(walls, "shares", "-1", house(), other(7));
        call(walls, "hide", "-1", house(), other(7));
        call(walls, "together", "-1 -2", house(), other(7), what(2));
    }

    private static void hoursOnAndMore(int walls) throws Exception {
        call(walls, "lacksThen", "-1 -4 -6", house(), number(0, 60));
        call(walls, "coughs", "-1 -4 -6", house(), other(7), number(0, 60));
        call(walls, "rain", "-1 -4 -6 -2", house(), number(0, 6), number(2, 20), what(1));
        call(walls, "wasSeen", "-1 -4 -6", house(), number(0, 999), number(0, 999));
        call(walls, "lots", "-4 -6 -2", number(1, 20), any(), what(1));
    }

    private static String street(int walls) {
        return walls == 0 ? BARE : walls == 3 ? RICH : SEVEN;
    }

    private static Bound number(int least, int most) {
        return new Bound('n', least, most);
    }

    private static Bound what(int most) {
        return new Bound('w', 0, most);
    }

    private static Bound house() {
        return new Bound('b', 0, 7);
    }

    private static Bound wall(int walls) {
        return new Bound('b', 0, walls - 1);
    }

    /** Of the same kind as the first argument, and not the same one. */
    private static Bound other(int most) {
        return new Bound('o', 0, most);
    }

    private static Bound any() {
        return new Bound('a', Integer.MIN_VALUE, Integer.MAX_VALUE);
    }

    /** All that are at a bound, with all the others that are, and the ends of the ints. */
    private static void call(int walls, String name, String order, Bound... bounds) throws Exception {
        List<int[]> all = new ArrayList<>();
        all.add(new int[0]);
        for (Bound bound : bounds) {
            List<int[]> longer = new ArrayList<>();
            for (int[] one : all) {
                for (int v : numbersAt(bound, bounds.length)) {
                    int[] more = java.util.Arrays.copyOf(one, one.length + 1);
                    more[one.length] = v;
                    longer.add(more);
                }
            }
            all = longer;
        }
        for (int[] arguments : all) {
            long refusal = refusalOf(order, bounds, arguments);
            if (refusal != 0 && (name.equals("ways") || name.equals("rain") || name.equals("mean"))) {
                refusal = 4000000000000000000L - refusal;
            }
            String call = name + java.util.Arrays.toString(arguments).replace('[', '(').replace(']', ')');
            Script.after("with " + walls + " walls", street(walls), call, refusal == 0 ? null : refusal);
        }
    }

    private static int[] numbersAt(Bound bound, int arguments) {
        int least = bound.least;
        int most = bound.most;
        if (bound.kind == 'a') {
            return new int[] {least, 0, most};
        }
        if (arguments <= 2) {
            return new int[] {Integer.MIN_VALUE, least - 1, least, (least + most) / 2, most, most + 1, Integer.MAX_VALUE};
        }
        return new int[] {least - 1, least, most, most + 1};
    }

    /** The first refusal, in the order in which the promise tells them, that one of the numbers deserves. */
    private static int refusalOf(String order, Bound[] bounds, int[] arguments) {
        for (String number : order.split(" ")) {
            for (int i = 0; i < bounds.length; i++) {
                int refusal = bounds[i].refusalOf(arguments[i], arguments[0]);
                if (refusal != 0 && number.equals("" + refusal)) {
                    return refusal;
                }
            }
        }
        return 0;
    }
}
