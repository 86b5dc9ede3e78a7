/** Promises 32 to 34 and 42: ways, rain, fractions, streets by lot. */
final class OddsTest {
    private static final long REFUSED = 4000000000000000000L;

    private OddsTest() {
    }

    static void run() {
        ways();
        rain();
        rainMovesWalls();
        rainRefusals();
        mean();
        lots();
        lotsWalk();
        lotsTakeWalls();
    }

    private static void ways() {
        WallsByTheHour x = Due.told("wp40;wl40;wb40;");
        Due.due("stays", x.ways(0, 0, 0), 1);
        Due.due("elsewhere by none", x.ways(0, 1, 0), 0);
        Due.due("an even step", x.ways(0, 2, 1), 1);
        Due.due("never stays", x.ways(0, 0, 1), 0);
        Due.due("there and back", x.ways(0, 0, 2), 3);
        Due.due("by lanes", x.ways(1, 7, 7), 1);
        Due.due("too few", x.ways(1, 7, 6), 0);
        Due.due("one step aside", x.ways(1, 1, 3), 2);
        Due.due("any: to itself", x.ways(2, 0, 20), 9974033287201501L);
        Due.due("any: elsewhere", x.ways(2, 5, 20), 9974033287201500L);
        x.bars(1, 2);
        Due.due("barred", x.ways(1, 7, 7), 0);
        x.takes(1, 6);
        Due.due("from where it is", x.ways(1, 7, 1), 1);
        Due.due("ways(3, 0, 0)", x.ways(3, 0, 0), REFUSED + 1);
        Due.due("ways(0, 8, -1)", x.ways(0, 8, -1), REFUSED + 1);
        Due.due("ways(-1, 0, 0)", x.ways(-1, 0, 0), REFUSED + 1);
        Due.due("ways(0, -1, 0)", x.ways(0, -1, 0), REFUSED + 1);
        Due.due("ways(0, 0, -1)", x.ways(0, 0, -1), REFUSED + 4);
        Due.due("ways(0, 0, 21)", x.ways(0, 0, 21), REFUSED + 6);
        Due.due("counted", x.count(11) * 100 + x.count(14) * 10 + x.count(16), 411);
    }

    private static void raining(WallsByTheHour x, int house, int n, int t, long above, long below) {
        String call = "rain(" + house + ", " + n + ", " + t + ", ";
        Due.due(call + "0)", x.rain(house, n, t, 0), above);
        Due.due(call + "1)", x.rain(house, n, t, 1), below);
    }

    private static void rain() {
        WallsByTheHour x = Due.told("ww11;n2111111;n3111110;n4900000;n5990000;");
        raining(x, 0, 0, 2, 0, 1);
        raining(x, 2, 0, 20, 1, 1);
        raining(x, 0, 1, 2, 1, 2);
        raining(x, 0, 2, 20, 1, 20);
        raining(x, 0, 6, 20, 1, 20);
        raining(x, 4, 0, 2, 1, 1);
        raining(Due.told("n0999999;"), 0, 6, 20, 1, 1);
        raining(Due.told("wl91;n1444444;"), 1, 1, 3, 0, 1);
        raining(Due.told("wl91;n1555555;"), 1, 1, 3, 1, 3);
        x = Due.told("n0555555;");
        Due.due("in mind alone", x.rain(0, 6, 2, 0), 1);
        Due.due("no rain now", x.house(0, 0), 5);
        Due.due("no rain in mind later", x.allLack(1), 5);
        Due.due("no hour", x.count(1), 0);
    }

    /** Only if it rains in the first HOUR does a WALL go to where it may reach house 0 in the second one. */
    private static void rainMovesWalls() {
        WallsByTheHour x = Due.told("ww43;ww43;n0001000;b30;");
        raining(x, 0, 2, 5, 4, 5);
        raining(x, 0, 2, 2, 1, 2);
        raining(x, 0, 2, 20, 19, 20);
    }

    private static void rainRefusals() {
        WallsByTheHour x = new WallsByTheHour();
        Due.due("rain(8, -1, 1, 2)", x.rain(8, -1, 1, 2), REFUSED + 1);
        Due.due("rain(-1, 0, 2, 0)", x.rain(-1, 0, 2, 0), REFUSED + 1);
        Due.due("rain(0, -1, 21, 2)", x.rain(0, -1, 21, 2), REFUSED + 4);
        Due.due("rain(0, 7, 1, 2)", x.rain(0, 7, 1, 2), REFUSED + 4);
        Due.due("rain(0, 7, 2, 2)", x.rain(0, 7, 2, 2), REFUSED + 6);
        Due.due("rain(0, 6, 21, 2)", x.rain(0, 6, 21, 2), REFUSED + 6);
        Due.due("rain(0, 6, 20, 2)", x.rain(0, 6, 20, 2), REFUSED + 2);
        Due.due("rain(0, 6, 20, -1)", x.rain(0, 6, 20, -1), REFUSED + 2);
        Due.due("counted", x.count(11) + 10 * x.count(12) + 100 * x.count(14) + 1000 * x.count(16), 2222);
    }

    private static void meaning(String text, long above, long below) {
        WallsByTheHour x = Due.told(text);
        Due.due(text + " mean(0)", x.mean(0), above);
        Due.due(text + " mean(1)", x.mean(1), below);
    }

    private static void mean() {
        meaning("n0555555;n1222222;", 7, 2);
        meaning("n0555555;n1222222;n7222222;", 3, 1);
        meaning("n0111111;n1111111;n2111111;n3333333;", 3, 2);
        meaning("ww40;n0555555;", 0, 1);
        WallsByTheHour x = new WallsByTheHour();
        Due.due("mean(2)", x.mean(2), REFUSED + 2);
        Due.due("mean(-1)", x.mean(-1), REFUSED + 2);
        Due.due("counted", x.count(12), 2);
    }

    private static void lots() {
        WallsByTheHour x = Due.told("n0333333;n1234567;n6000000;h02;");
        Due.due("without walls: what all lack", x.lots(20, 5, 0), 20 * 7);
        Due.due("without walls: seen", x.lots(3, 5, 1), 6);
        Due.due("lots(0, 0, 2)", x.lots(0, 0, 2), -4);
        Due.due("lots(21, 0, 2)", x.lots(21, 0, 2), -6);
        Due.due("lots(20, 0, 2)", x.lots(20, 0, 2), -2);
        Due.due("lots(20, 0, -1)", x.lots(20, 0, -1), -2);
        Due.due("in mind alone", x.count(1), 2);
    }

    private static void lotsWalk() {
        WallsByTheHour x = Due.told("wb90;n5222222;");
        Due.due("from any house to where it lacks", x.lots(20, 3, 0), 0);
        x.needs(2, 0, 9);
        Due.due("and on to where it lacks more", x.lots(20, 3, 0), 20 * 6);
    }

    /** Two LANES of which the first one alone closes house 5 in, and only if it is taken there by lot. */
    private static void lotsTakeWalls() {
        WallsByTheHour x = Due.told("wl90;wl00;n5222222;b45;b65;");
        for (int seed : new int[] {7, 0, -1, 1, 123456789, Integer.MIN_VALUE, Integer.MAX_VALUE}) {
            long z = seed & 0xffffffffL;
            int lacking = 0;
            int seen = 0;
            for (int n = 1; n <= 20; n++) {
                z = (z * 1664525L + 1013904223L) & 0xffffffffL;
                long first = ((z & 0x7fffffffL) / 256) % 8;
                z = (z * 1664525L + 1013904223L) & 0xffffffffL;
                long second = ((z & 0x7fffffffL) / 256) % 8;
                lacking += first == 5 ? 0 : second == 5 ? 1 : 2;
                seen += first == 5 ? 0 : 1;
                Due.due("lots(" + n + ", " + seed + ", 0)", x.lots(n, seed, 0), lacking);
                Due.due("lots(" + n + ", " + seed + ", 1)", x.lots(n, seed, 1), seen);
            }
        }
        Due.due("nothing is taken", x.wall(0, 3), 0);
    }
}
