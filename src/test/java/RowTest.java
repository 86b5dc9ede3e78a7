/** Promises 38 to 41: what one is by where it was, the ROW, what was told looked at. */
final class RowTest {
    private RowTest() {
    }

    static void run() {
        row();
        judge();
        kinds();
        figures();
    }

    private static void row() {
        WallsByTheHour x = new WallsByTheHour();
        Due.due("row(0)", x.row(0), 1);
        Due.due("row(99)", x.row(99), 2);
        Due.due("row(-1)", x.row(-1), -4);
        Due.due("row(100)", x.row(100), -6);
        for (int i = 3; i <= 16; i++) {
            Due.due("number " + i, x.row(i), i);
        }
        Due.due("the 17th", x.row(0), -6);
        Due.due("the 17th, below", x.row(-1), -4);
        Due.due("how many", x.count(6), 16);
        Due.due("clear()", x.clear(), 16);
        Due.due("none then", x.count(6), 0);
        Due.due("clear() of none", x.clear(), 0);
        Due.due("row(5) anew", x.row(5), 1);
    }

    private static void judging(WallsByTheHour x, int due, int... numbers) {
        Due.rowOf(x, numbers);
        Due.due("judge() of " + java.util.Arrays.toString(numbers), x.judge(), due);
        Due.due("none behind it", x.count(6), 0);
    }

    private static void judge() {
        WallsByTheHour x = Due.told("n0123456;n7100000;");
        judging(x, -9, 2, 2, 3, 4, 5, 6, 2, 2);
        judging(x, 2, 2, 2, 4);
        judging(x, 0, 1, 2);
        judging(x, -9);
        judging(x, 1, 2, 0, 3);
        judging(x, 15, 2, 2, 3, 4, 5, 6, 2, 2, 3, 4, 5, 6, 2, 2, 3, 99);
        Due.due("in mind alone", x.count(1), 0);
        judging(Due.told("ww40;n3022222;"), -9, 0, 0, 0);
    }

    private static void isBy(WallsByTheHour x, int wall, int kinds, int figures) {
        Due.due("whatIs(" + wall + ", 0)", x.whatIs(wall, 0), kinds);
        Due.due("whatIs(" + wall + ", 1)", x.whatIs(wall, 1), figures);
    }

    private static void kinds() {
        WallsByTheHour x = Due.told("ww40;n3012345;");
        isBy(x, 0, 63, 1023);
        Due.rowOf(x, 0, 3, 3);
        isBy(x, 0, 7, 1023);
        Due.rowOf(x, 0, 0, 0);
        isBy(x, 0, 56, 0);
        Due.rowOf(x, 1);
        isBy(x, 0, 0, 0);
        Due.rowOf(x, 0, 99);
        isBy(x, 0, 0, 0);
        Due.rowOf(x, 0, 3, 3, 3, 3, 3, 3, 3, 3, 3, 3, 3, 3, 3, 3, 3);
        isBy(x, 0, 7, 1023);
        Due.rowOf(x, 0, 3, 3, 3, 3, 3, 3, 3, 3, 3, 3, 3, 3, 3, 3, 2);
        isBy(x, 0, 0, 0);
        Due.due("the row stays", x.count(6), 16);
        Due.due("in mind alone", x.wall(0, 0) + x.wall(0, 3) + x.count(1), 0);
        Due.due("whatIs(1, 2)", x.whatIs(1, 2), -1);
        Due.due("whatIs(-1, 0)", x.whatIs(-1, 0), -1);
        Due.due("whatIs(0, 2)", x.whatIs(0, 2), -2);
        Due.due("whatIs(0, -1)", x.whatIs(0, -1), -2);
    }

    /** The second WALL comes where the first one is if that covers too little; then the first one can go on. */
    private static void figures() {
        WallsByTheHour x = Due.told("ww90;ww32;n1044444;n4003333;");
        Due.rowOf(x, 0, 1, 4);
        Due.due("of little", x.whatIs(0, 1), 7);
        Due.rowOf(x, 0, 1, 1);
        Due.due("of more", x.whatIs(0, 1), 1016);
    }
}
