/** Promises 1 to 3: a new object, letters, streets and their faults. */
final class LettersTest {
    private LettersTest() {
    }

    static void run() {
        aNewObject();
        letters();
        streets();
        formFaults();
        senseFaults();
        lastHour();
        aFaultChangesNothing();
    }

    private static void aNewObject() {
        WallsByTheHour x = new WallsByTheHour();
        for (int what = 0; what <= 7; what++) {
            Due.due("new: count(" + what + ")", x.count(what), 0);
        }
        for (int what = 11; what <= 16; what++) {
            Due.due("new: count(" + what + ")", x.count(what), 0);
        }
        for (int house = 0; house < 8; house++) {
            for (int what = 0; what <= 5; what++) {
                Due.due("new: house(" + house + ", " + what + ")", x.house(house, what), 0);
            }
        }
        Due.due("new: coldest(1)", x.coldest(1), 0);
        Due.due("new: best(0)", x.best(0), -9);
        Due.due("new: asked()", x.asked(), -9);
        Due.due("new: wall(0, 0)", x.wall(0, 0), -1);
        Due.due("new: on()", x.on(), -3);
    }

    private static void letters() {
        WallsByTheHour x = new WallsByTheHour();
        Due.due("letter(0)", x.letter(0), 1);
        Due.due("letter(255)", x.letter(255), 2);
        Due.due("letter(-1)", x.letter(-1), -4);
        Due.due("letter(256)", x.letter(256), -6);
        Due.due("letters so far", x.count(7), 2);
        for (int i = 3; i <= 96; i++) {
            Due.due("letter " + i, x.letter('w'), i);
        }
        Due.due("the 97th letter", x.letter('w'), -6);
        Due.due("the 97th letter, below", x.letter(-5), -4);
        Due.due("letters at most", x.count(7), 96);
        Due.due("refused below", x.count(14), 2);
        Due.due("refused for room", x.count(16), 2);
    }

    private static void streets() {
        WallsByTheHour x = new WallsByTheHour();
        Due.due("w for each kind", Due.tell(x, "ww40;wo31;wb62;wp53;wl24;wf15;"), 6);
        Due.due("letters are no more", x.count(7), 0);
        for (int wall = 0; wall < 6; wall++) {
            Due.due("kind of " + wall, x.wall(wall, 0), wall);
            Due.due("figure of " + wall, x.wall(wall, 1), new int[] {4, 3, 6, 5, 2, 1}[wall]);
            Due.due("owner of " + wall, x.wall(wall, 2), wall);
            Due.due("at its owner " + wall, x.wall(wall, 3), wall);
        }
        Due.due("m, s, n, b", Due.tell(x, "m07;s16;n2123456;b30;b31;b30;"), 6);
        Due.due("m: at", x.wall(0, 3), 7);
        Due.due("m: holes as they are", x.wall(0, 4), 0);
        Due.due("s: owner", x.wall(1, 2), 6);
        Due.due("s: at as it was", x.wall(1, 3), 1);
        for (int part = 0; part < 6; part++) {
            Due.due("n: part " + part, x.needs(2, part, 0), part + 1);
        }
        Due.due("b, told again, does no more", x.house(3, 5), 2);
        Due.due("h", Due.tell(x, "h07;h60;"), 2);
        Due.due("h: hour", x.count(1), 67);
        x = Due.told("n0111111;h05;n0000000;h03;");
        Due.due("h is written down", x.wasSeen(0, 0, 999), 5);
    }

    private static void formFaults() {
        String[] texts = {"", "x", "W", ";", "ww90;;", "ww90;w", "w", "ww", "wx", "w4", "ww9", "wwx", "ww9;", "ww9x", "ww08",
            "ww080", "ww08x", "m", "m0", "m0;", "mx", "m01", "m011", "s0 ", "n", "n0", "n0123456", "n012345;", "n01234567;",
            "b", "bb", "b0", "b01,", "h", "h1", "h1;", "h01", "h011;", "h01;m", "h01;h", "b33;x", "ww99;q", "\u00e9", "ww:0;", "ww/0;", "ww0:;", "m0:;"};
        int[] places = {0, 0, 0, 0, 5, 6, 1, 2, 1, 1, 3, 2, 3, 3, 4,
            4, 4, 1, 2, 2, 1, 3, 3, 2, 1, 2, 8, 7, 8,
            1, 1, 2, 3, 1, 2, 2, 3, 3, 5, 5, 4, 5, 0, 2, 2, 3, 2};
        WallsByTheHour x = new WallsByTheHour();
        for (int i = 0; i < texts.length; i++) {
            Due.due("street '" + texts[i] + "'", Due.tell(x, texts[i]), -1000 - places[i]);
            Due.due("no letters behind '" + texts[i] + "'", x.count(7), 0);
        }
        for (int what = 11; what <= 16; what++) {
            Due.due("faults are not counted, " + what, x.count(what), 0);
        }
    }

    private static void senseFaults() {
        Due.due("owner 8", Due.tell(new WallsByTheHour(), "ww08;"), -2000);
        Due.due("owner 7", Due.tell(new WallsByTheHour(), "ww07;"), 1);
        Due.due("m without walls", Due.tell(new WallsByTheHour(), "m00;"), -2000);
        Due.due("m of a wall told ahead", Due.tell(new WallsByTheHour(), "ww00;m07;"), 2);
        Due.due("m of the next wall", Due.tell(new WallsByTheHour(), "ww00;m10;ww00;"), -2005);
        Due.due("m to house 8", Due.tell(new WallsByTheHour(), "ww00;m08;"), -2005);
        Due.due("s to house 8", Due.tell(new WallsByTheHour(), "ww00;s08;"), -2005);
        Due.due("s of no wall", Due.tell(new WallsByTheHour(), "ww00;s11;"), -2005);
        Due.due("n of house 8", Due.tell(new WallsByTheHour(), "n8000000;"), -2000);
        Due.due("b of one house twice", Due.tell(new WallsByTheHour(), "b01;b44;"), -2004);
        Due.due("b of house 8", Due.tell(new WallsByTheHour(), "b80;"), -2000);
        Due.due("b to house 9", Due.tell(new WallsByTheHour(), "b09;"), -2000);
        Due.due("h of 0", Due.tell(new WallsByTheHour(), "h00;"), -2000);
        Due.due("h of 60", Due.tell(new WallsByTheHour(), "h60;"), 1);
        Due.due("h of 61", Due.tell(new WallsByTheHour(), "h60;h61;"), -2004);
        Due.due("a form fault goes ahead", Due.tell(new WallsByTheHour(), "b44;x"), -1004);
        String seven = "ww00;ww00;ww00;ww00;ww00;ww00;ww00;";
        Due.due("seven walls", Due.tell(new WallsByTheHour(), seven), 7);
        Due.due("eight walls", Due.tell(new WallsByTheHour(), seven + "ww00;"), -2035);
        WallsByTheHour x = Due.told("ww00;ww00;ww00;ww00;ww00;");
        Due.due("seven and one more", Due.tell(x, "ww00;ww00;m60;ww00;"), -2014);
        Due.due("none of them came", x.count(0), 5);
        Due.due("two more", Due.tell(x, "ww00;ww00;"), 2);
        Due.due("no room", Due.tell(x, "ww00;"), -2000);
    }

    private static void lastHour() {
        WallsByTheHour x = new WallsByTheHour();
        for (int i = 0; i < 16; i++) {
            x.hours(60);
        }
        Due.due("hour 1000", Due.tell(x, "h40;"), -2000);
        Due.due("hours to 1000 together", Due.tell(x, "h20;h20;"), -2004);
        Due.due("hour 999", Due.tell(x, "h20;h19;"), 2);
        Due.due("hour", x.count(1), 999);
        Due.due("no hour more", Due.tell(x, "h01;"), -2000);
    }

    private static void aFaultChangesNothing() {
        WallsByTheHour x = Due.told("ww40;");
        Due.due("fault", Due.tell(x, "m07;s06;n0999999;b01;h05;b11;"), -2025);
        Due.due("at", x.wall(0, 3), 0);
        Due.due("owner", x.wall(0, 2), 0);
        Due.due("need", x.house(0, 0), 0);
        Due.due("bars", x.house(0, 5), 0);
        Due.due("hour", x.count(1), 0);
        Due.due("letters", x.count(7), 0);
    }
}
