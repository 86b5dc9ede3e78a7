/** Promises 20 to 30: what to do with the walls as they are now, who sees whom. */
final class ChoicesTest {
    private ChoicesTest() {
    }

    static void run() {
        close();
        split();
        spare();
        price();
        shares();
        coldest();
        best();
        each();
        panes();
        sees();
        hide();
    }

    private static void closing(WallsByTheHour x, int house, int bits, int steps) {
        Due.due("close(" + house + ", 0)", x.close(house, 0), bits);
        Due.due("close(" + house + ", 1)", x.close(house, 1), steps);
    }

    private static void close() {
        WallsByTheHour x = Due.told("ww20;wb91;ww44;n3555555;");
        closing(x, 3, 4, 1);
        x.needs(3, 0, 9);
        closing(x, 3, 6, 3);
        x.needs(3, 0, 0);
        closing(x, 3, 0, 0);
        closing(new WallsByTheHour(), 3, 0, 0);
        closing(Due.told("n3111111;"), 3, -9, -9);
        closing(Due.told("ww23;ww24;n3555555;"), 3, 2, 1);
        closing(Due.told("ww42;ww44;n3555555;"), 3, 1, 1);
        closing(Due.told("ww44;ww42;ww43;m20;n3555555;"), 3, 1, 1);
        closing(Due.told("ww20;ww12;ww12;ww12;n3666666;"), 3, 14, 3);
        closing(Due.told("ww80;b03;b01;n7999999;"), 7, 1, 7);
        closing(Due.told("ww70;n7999999;"), 7, -9, -9);
        x = Due.told("ww20;n3999999;");
        Due.due("close(8, 2)", x.close(8, 2), -1);
        Due.due("close(-1, 0)", x.close(-1, 0), -1);
        Due.due("close(0, 2)", x.close(0, 2), -2);
        Due.due("close(0, -1)", x.close(0, -1), -2);
    }

    private static void splitting(String text, int a, int b, int... due) {
        WallsByTheHour x = Due.told(text);
        for (int what = 0; what < 3; what++) {
            Due.due(text + " split(" + a + ", " + b + ", " + what + ")", x.split(a, b, what), due[what]);
        }
    }

    private static void split() {
        splitting("ww42;ww42;n1555555;n3555555;", 1, 3, 2, 2, 1);
        splitting("ww42;ww42;n1555555;n3555555;", 3, 1, 2, 2, 1);
        splitting("ww41;ww43;n1555555;n3555555;", 1, 3, 0, 0, 0);
        splitting("ww41;ww41;n1555555;n3555555;", 1, 3, 2, 0, 1);
        splitting("ww41;ww41;n1555555;n3555555;", 3, 1, 2, 1, 0);
        splitting("ww41;n1555555;n3555555;", 1, 3, -9, -9, -9);
        splitting("ww41;n3555555;", 1, 3, 2, 0, 1);
        splitting("n3555555;", 1, 2, 0, 0, 0);
        splitting("n3555555;", 1, 3, -9, -9, -9);
        splitting("ww20;ww20;ww27;n0222222;n1555555;", 0, 1, 7, 0, 5);
        splitting("ww20;ww20;ww27;n0222222;n1555555;m06;", 0, 1, 11, 0, 5);
        WallsByTheHour x = Due.told("ww41;");
        Due.due("split(1, 1, 0)", x.split(1, 1, 0), -1);
        Due.due("split(8, 1, 3)", x.split(8, 1, 3), -1);
        Due.due("split(1, -1, 0)", x.split(1, -1, 0), -1);
        Due.due("split(1, 2, 3)", x.split(1, 2, 3), -2);
        Due.due("split(1, 2, -1)", x.split(1, 2, -1), -2);
    }

    private static void spare() {
        Due.due("either of two", Due.told("ww40;ww40;n0555555;").spare(), 3);
        Due.due("just enough", Due.told("ww40;n0555555;").spare(), 0);
        Due.due("no need", Due.told("ww40;").spare(), 1);
        Due.due("too little as it is", Due.told("ww20;n0555555;").spare(), 0);
        Due.due("one that covers nothing", Due.told("wb00;n0999999;").spare(), 1);
        Due.due("of the house where it is", Due.told("ww40;ww41;m07;n0555555;n7111111;").spare(), 2);
        Due.due("none", new WallsByTheHour().spare(), 0);
    }

    private static void pricing(String text, int wall, int buyer, int price) {
        WallsByTheHour x = Due.told(text);
        Due.due(text + " price(" + wall + ", 0)", x.price(wall, 0), buyer);
        Due.due(text + " price(" + wall + ", 1)", x.price(wall, 1), price);
    }

    private static void price() {
        pricing("ww40;n2555555;n5333333;n1111111;", 0, 2, 0);
        pricing("ww40;n2555555;n3555555;n1111111;", 0, 2, 2);
        pricing("ww43;n2444444;n4444444;", 0, 2, 3);
        pricing("ww43;n1999999;n4333333;", 0, 1, 2);
        pricing("ww41;n0999999;n2333333;", 0, 0, 2);
        pricing("ww40;", 0, -9, 0);
        pricing("ww40;n1111111;", 0, -9, 0);
        pricing("ww20;n0555555;", 0, 0, 0);
        pricing("ww90;ww20;m13;n5999999;", 1, 5, 0);
        pricing("ww90;ww20;m13;n5999999;", 0, 5, 0);
        WallsByTheHour x = Due.told("ww40;");
        Due.due("price(1, 2)", x.price(1, 2), -1);
        Due.due("price(-1, 0)", x.price(-1, 0), -1);
        Due.due("price(0, 2)", x.price(0, 2), -2);
        Due.due("price(0, -1)", x.price(0, -1), -2);
    }

    private static void shares() {
        WallsByTheHour x = Due.told("ww40;ww41;");
        Due.due("each its own", x.shares(0, 1), 1);
        Due.due("each its own, turned", x.shares(1, 0), 2);
        x.takes(0, 7);
        Due.due("by the owner, not by where it is", x.shares(0, 1), 1);
        Due.due("of two alike the least bits", Due.told("ww40;ww40;").shares(0, 1), 1);
        Due.due("one wall is always envied", Due.told("ww40;").shares(0, 1), -9);
        Due.due("without walls nobody envies", new WallsByTheHour().shares(0, 1), 0);
        Due.due("one that is worth as much as two", Due.told("wb30;wb30;wf50;").shares(0, 1), 3);
        Due.due("8 and what it covers", Due.told("ww00;ww00;ww80;").shares(0, 1), 3);
        Due.due("most together", Due.told("ww40;ww41;ww40;ww41;").shares(0, 1), 5);
        Due.due("shares(0, 0)", x.shares(0, 0), -1);
        Due.due("shares(8, 0)", x.shares(8, 0), -1);
        Due.due("shares(0, 8)", x.shares(0, 8), -1);
        Due.due("shares(-1, 0)", x.shares(-1, 0), -1);
    }

    private static void coldest() {
        WallsByTheHour x = Due.told("n0123456;n7954000;");
        Due.due("part", x.coldest(0), 0);
        Due.due("needs", x.coldest(1), 10);
        x.needs(3, 4, 5);
        Due.due("of several the least", x.coldest(0), 0);
        x.needs(3, 4, 6);
        Due.due("another part", x.coldest(0), 4);
        Due.due("its needs", x.coldest(1), 11);
        x.needs(5, 1, 9);
        Due.due("the second part", x.coldest(0), 1);
        Due.due("needs of the second part", x.coldest(1), 16);
        Due.due("coldest(2)", x.coldest(2), -2);
        Due.due("coldest(-1)", x.coldest(-1), -2);
    }

    private static void best() {
        WallsByTheHour x = Due.told("ww20;wo53;ww84;m16;h02;n0444444;n5111111;");
        Due.due("of several the least", x.best(0), 1);
        Due.due("where it is", x.best(1), 6);
        Due.due("lent", x.best(2), 2);
        Due.due("seen", x.best(3), 33);
        Due.due("none warmer", x.best(4), 0);
        x.hours(1);
        Due.due("at another part", x.best(0), 2);
        x = Due.told("wo20;");
        for (int hour = 0; hour < 12; hour++) {
            Due.due("warmer at " + hour, x.best(4), hour % 6 == 5 ? 1 : 0);
            x.hours(1);
        }
        x = Due.told("ww20;wo53;wo04;h05;");
        Due.due("warmer as the next day comes", x.best(4), 6);
        x.hours(1);
        Due.due("no warmer then", x.best(4), 0);
        Due.due("covers nothing", Due.told("wb03;").best(0), 0);
        Due.due("best(5)", x.best(5), -2);
        Due.due("best(-1)", x.best(-1), -2);
        x = new WallsByTheHour();
        Due.due("no wall", x.best(0), -9);
        Due.due("nowhere", x.best(1), -9);
        Due.due("none lent", x.best(2), 0);
    }

    private static void each() {
        WallsByTheHour x = Due.told("ww40;wb30;ww47;wf07;ww07;");
        Due.due("cut", x.each(0), 3);
        Due.due("8 by 3", x.each(7), 2);
        Due.due("no wall at it", x.each(1), -3);
        Due.due("each(8)", x.each(8), -1);
        Due.due("each(-1)", x.each(-1), -1);
        Due.due("refused for its state", x.count(13), 1);
    }

    private static void panes() {
        WallsByTheHour x = Due.told("ww40;wo40;wb40;wp00;wl40;wf00;");
        for (int wall : new int[] {0, 1, 2, 4}) {
            Due.due("panes(" + wall + ")", x.panes(wall), -3);
        }
        for (int figure = 0; figure <= 9; figure++) {
            x.turn(3, 3, figure);
            x.turn(5, 5, figure);
            Due.due("of a pane of " + figure, x.panes(3), 1 + figure / 2);
            Due.due("of a fine of " + figure, x.panes(5), 4 + figure / 2);
        }
        Due.due("panes(6)", x.panes(6), -1);
        Due.due("panes(-1)", x.panes(-1), -1);
    }

    private static void sees() {
        WallsByTheHour x = Due.told("n3555555;ww41;n0111111;");
        Due.due("sees(3)", x.sees(3), 246);
        Due.due("sees(0)", x.sees(0), 2);
        Due.due("not seen", x.sees(5), 0);
        x.takes(0, 3);
        Due.due("closed in", x.sees(3), 0);
        Due.due("sees(8)", x.sees(8), -1);
        Due.due("sees(-1)", x.sees(-1), -1);
        Due.due("a wall at it hides nothing", Due.told("ww03;n3555555;").sees(3), 247);
        Due.due("no walls", Due.told("n0111111;").sees(0), 254);
    }

    private static void hide() {
        WallsByTheHour x = Due.told("n3555555;ww47;ww20;");
        Due.due("hide(1, 3)", x.hide(1, 3), 12);
        Due.due("hide(3, 1)", x.hide(3, 1), -3);
        Due.due("hide(2, 3)", x.hide(2, 3), -9);
        Due.due("hide(7, 3)", x.hide(7, 3), 6);
        Due.due("hide(0, 3)", x.hide(0, 3), 11);
        x.takes(0, 2);
        Due.due("hidden", x.hide(0, 3), -3);
        Due.due("no walls", Due.told("n3111111;").hide(0, 3), -9);
        Due.due("of two as near the first", Due.told("ww03;ww00;n3555555;").hide(0, 3), 2);
        Due.due("of two as near the first, turned", Due.told("ww00;ww03;n3555555;").hide(0, 3), 1);
        Due.due("closed in", Due.told("ww43;n3555555;").hide(7, 3), -3);
        Due.due("hide(4, 4)", x.hide(4, 4), -1);
        Due.due("hide(8, 3)", x.hide(8, 3), -1);
        Due.due("hide(0, -1)", x.hide(0, -1), -1);
    }
}
