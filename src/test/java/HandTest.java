/** Promises 4 to 11 and 43 to 45: what stands, changes by hand, HOURS, THE IMAGE, counts. */
final class HandTest {
    private HandTest() {
    }

    static void run() {
        covers();
        wallRefusals();
        house();
        takes();
        sells();
        needs();
        bars();
        turn();
        hours();
        goingHome();
        whereMostIsLacking();
        strides();
        image();
        count();
    }

    private static void covers() {
        int[] inTheMorning = {9, 12, 4, 9, 5, 18};
        int[] later = {9, 9, 4, 9, 5, 18};
        WallsByTheHour x = Due.told("ww80;wo80;wb80;wp80;wl80;wf80;");
        for (int hour = 0; hour <= 6; hour++) {
            for (int wall = 0; wall < 6; wall++) {
                boolean morning = hour % 6 <= 2;
                Due.due("cover of " + wall + " at " + hour, x.wall(wall, 5), morning ? inTheMorning[wall] : later[wall]);
            }
            x.hours(1);
        }
        x = Due.told("ww00;wo00;wb00;wp00;wl00;wf00;wb90;");
        int[] least = {1, 4, 0, 1, 1, 2, 5};
        for (int wall = 0; wall < 7; wall++) {
            Due.due("cover of figure 0, " + wall, x.wall(wall, 5), least[wall]);
        }
    }

    private static void wallRefusals() {
        WallsByTheHour x = Due.told("ww40;");
        Due.due("wall(1, 0)", x.wall(1, 0), -1);
        Due.due("wall(-1, 9)", x.wall(-1, 9), -1);
        Due.due("wall(0, 6)", x.wall(0, 6), -2);
        Due.due("wall(0, -1)", x.wall(0, -1), -2);
        Due.due("wall(MAX, 0)", x.wall(Integer.MAX_VALUE, 0), -1);
        Due.due("wall(MIN, 0)", x.wall(Integer.MIN_VALUE, 0), -1);
        Due.due("refused nobody", x.count(11), 4);
        Due.due("refused other", x.count(12), 2);
    }

    private static void house() {
        WallsByTheHour x = Due.told("ww42;wo31;wb62;n2987654;b25;b20;m12;");
        Due.due("house(2, 0)", x.house(2, 0), 9);
        Due.due("house(2, 1)", x.house(2, 1), 5 + 7 + 3);
        Due.due("house(2, 2)", x.house(2, 2), 0);
        Due.due("house(2, 3)", x.house(2, 3), 7);
        Due.due("house(2, 4)", x.house(2, 4), 5);
        Due.due("house(2, 5)", x.house(2, 5), 33);
        Due.due("house(1, 4)", x.house(1, 4), 2);
        Due.due("house(1, 3)", x.house(1, 3), 0);
        Due.due("house(0, 5)", x.house(0, 5), 0);
        x.takes(1, 7);
        x.takes(0, 7);
        Due.due("it lacks", x.house(2, 2), 6);
        Due.due("house(8, 0)", x.house(8, 0), -1);
        Due.due("house(-1, 0)", x.house(-1, 0), -1);
        Due.due("house(0, 6)", x.house(0, 6), -2);
        Due.due("house(0, -1)", x.house(0, -1), -2);
        Due.due("house(8, 6)", x.house(8, 6), -1);
    }

    private static void takes() {
        WallsByTheHour x = Due.told("wl40;b05;");
        Due.due("any house, barred too", x.takes(0, 5), 0);
        Due.due("takes(0, 7)", x.takes(0, 7), 5);
        Due.due("takes to where it is", x.takes(0, 7), 7);
        Due.due("holes as they are", x.wall(0, 4), 0);
        Due.due("has", x.house(7, 1), 3);
        Due.due("had", x.house(5, 1), 0);
        Due.due("owner", x.wall(0, 2), 0);
        Due.due("takes(1, 0)", x.takes(1, 0), -1);
        Due.due("takes(0, 8)", x.takes(0, 8), -1);
        Due.due("takes(0, -1)", x.takes(0, -1), -1);
        Due.due("takes(-1, 0)", x.takes(-1, 0), -1);
        Due.due("refused", x.count(11), 4);
        Due.due("nothing changed", x.wall(0, 3), 7);
    }

    private static void sells() {
        WallsByTheHour x = Due.told("ww40;");
        Due.due("sells(0, 6)", x.sells(0, 6), 0);
        Due.due("sells(0, 2)", x.sells(0, 2), 6);
        Due.due("owner", x.wall(0, 2), 2);
        Due.due("at", x.wall(0, 3), 0);
        Due.due("lent", x.count(4), 1);
        Due.due("sells(1, 0)", x.sells(1, 0), -1);
        Due.due("sells(0, 8)", x.sells(0, 8), -1);
        Due.due("sells(0, -1)", x.sells(0, -1), -1);
        Due.due("owner as it was", x.wall(0, 2), 2);
    }

    private static void needs() {
        WallsByTheHour x = new WallsByTheHour();
        Due.due("needs(3, 0, 9)", x.needs(3, 0, 9), 0);
        Due.due("needs(3, 0, 4)", x.needs(3, 0, 4), 9);
        Due.due("need now", x.house(3, 0), 4);
        Due.due("needs(3, 5, 0)", x.needs(3, 5, 0), 0);
        Due.due("needs(8, 6, -1)", x.needs(8, 6, -1), -1);
        Due.due("needs(-1, 0, 0)", x.needs(-1, 0, 0), -1);
        Due.due("needs(0, 6, -1)", x.needs(0, 6, -1), -2);
        Due.due("needs(0, -1, 0)", x.needs(0, -1, 0), -2);
        Due.due("needs(0, 0, -1)", x.needs(0, 0, -1), -4);
        Due.due("needs(0, 0, 10)", x.needs(0, 0, 10), -6);
        Due.due("need as it was", x.house(3, 0), 4);
    }

    private static void bars() {
        WallsByTheHour x = new WallsByTheHour();
        Due.due("bars(0, 7)", x.bars(0, 7), 1);
        Due.due("bars(0, 1)", x.bars(0, 1), 1);
        Due.due("bars of 0", x.house(0, 5), 130);
        Due.due("not the other way", x.house(7, 5), 0);
        Due.due("bars(0, 7) no more", x.bars(0, 7), 0);
        Due.due("bars of 0 then", x.house(0, 5), 2);
        Due.due("bars(0, 0)", x.bars(0, 0), -1);
        Due.due("bars(8, 0)", x.bars(8, 0), -1);
        Due.due("bars(0, 8)", x.bars(0, 8), -1);
        Due.due("bars(-1, 0)", x.bars(-1, 0), -1);
        Due.due("bars(0, -1)", x.bars(0, -1), -1);
    }

    private static void turn() {
        WallsByTheHour x = Due.told("wf40;");
        Due.due("turn(0, 0, 9)", x.turn(0, 0, 9), 54);
        Due.due("turn(0, 5, 0)", x.turn(0, 5, 0), 9);
        Due.due("kind", x.wall(0, 0), 5);
        Due.due("figure", x.wall(0, 1), 0);
        Due.due("has", x.house(0, 1), 2);
        Due.due("turn(1, 6, -1)", x.turn(1, 6, -1), -1);
        Due.due("turn(0, 6, -1)", x.turn(0, 6, -1), -2);
        Due.due("turn(0, -1, 0)", x.turn(0, -1, 0), -2);
        Due.due("turn(0, 0, -1)", x.turn(0, 0, -1), -4);
        Due.due("turn(0, 0, 10)", x.turn(0, 0, 10), -6);
        Due.due("as it was", x.turn(0, 1, 1), 50);
    }

    private static void hours() {
        WallsByTheHour x = Due.told("n0123456;n1111111;");
        Due.due("hours(1)", x.hours(1), 3);
        Due.due("hours(4)", x.hours(4), 7);
        Due.due("hours(1) to the next day", x.hours(1), 2);
        Due.due("hours(0)", x.hours(0), -4);
        Due.due("hours(-60)", x.hours(-60), -4);
        Due.due("hours(61)", x.hours(61), -6);
        Due.due("hours(MAX)", x.hours(Integer.MAX_VALUE), -6);
        for (int i = 0; i < 16; i++) {
            x.hours(60);
        }
        Due.due("hour", x.count(1), 966);
        Due.due("hours(34)", x.hours(34), -6);
        Due.due("hour as it was", x.count(1), 966);
        Due.due("hours(33)", x.hours(33), 5);
        Due.due("hour at last", x.count(1), 999);
        Due.due("hours(1) above 999", x.hours(1), -6);
        Due.due("hours(0) at 999", x.hours(0), -4);
    }

    private static void goingHome() {
        WallsByTheHour x = Due.told("ww40;m03;n0111111;n4999999;");
        x.hours(1);
        Due.due("home ahead of where most is lacking", x.wall(0, 3), 0);
        Due.due("a hole", x.wall(0, 4), 1);
        x = Due.told("ww40;m04;n0111111;");
        x.hours(3);
        Due.due("4 steps are too far", x.wall(0, 3), 4);
        x = Due.told("ww40;m03;n0111111;b30;");
        x.hours(3);
        Due.due("barred", x.wall(0, 3), 3);
        x = Due.told("ww40;m03;n0111111;b03;");
        x.hours(1);
        Due.due("barred the other way", x.wall(0, 3), 0);
        x = Due.told("ww40;m03;n0100000;");
        x.hours(5);
        Due.due("its owner lacks nothing yet", x.wall(0, 3), 3);
        x.hours(1);
        Due.due("at the new part it does", x.wall(0, 3), 0);
        x = Due.told("ww40;m03;n0111111;n3999999;");
        x.hours(1);
        Due.due("home though it lacks there", x.wall(0, 3), 0);
        x = Due.told("ww40;ww50;m01;m11;n0555555;");
        x.hours(1);
        Due.due("the first one goes home", x.wall(0, 3), 0);
        Due.due("the second one needn't then", x.wall(1, 3), 1);
    }

    private static void whereMostIsLacking() {
        WallsByTheHour x = Due.told("wb33;n1222222;n5333333;n6333333;n0222222;");
        x.hours(1);
        Due.due("of several that lack most the least", x.wall(0, 3), 5);
        x = Due.told("wb33;n3222222;n5222222;");
        x.hours(1);
        Due.due("not more than its own house would without it", x.wall(0, 3), 3);
        x = Due.told("wb33;n3222222;n5333333;");
        x.hours(1);
        Due.due("more than its own house would without it", x.wall(0, 3), 5);
        x = Due.told("wb33;ww93;n3222222;n5111111;b35;");
        x.hours(1);
        Due.due("barred", x.wall(0, 3), 3);
        x.bars(3, 5);
        x.hours(1);
        Due.due("no more", x.wall(0, 3), 5);
        x = Due.told("ww43;ww43;n4555555;n5333333;");
        x.hours(1);
        Due.due("as all is by then: the first", x.wall(0, 3), 4);
        Due.due("as all is by then: the second", x.wall(1, 3), 5);
        Due.due("holes of all", x.count(5), 2);
    }

    /** A WALL of a kind at house 0, where house d alone lacks: whether it goes d STEPS. */
    private static void strides() {
        String kinds = "wobplf";
        String[] far = {"1110000", "1110000", "1111111", "0101010", "1000000", "1101010"};
        for (int kind = 0; kind < 6; kind++) {
            for (int steps = 1; steps <= 7; steps++) {
                WallsByTheHour x = Due.told("w" + kinds.charAt(kind) + "40;n" + steps + "999999;");
                x.hours(1);
                boolean goes = far[kind].charAt(steps - 1) == '1';
                Due.due("kind " + kind + " goes " + steps, x.wall(0, 3), goes ? steps : 0);
            }
        }
    }

    private static void image() {
        WallsByTheHour x = Due.told("ww40;n1111111;n7444444;b12;h03;");
        Due.due("on() without one", x.on(), -3);
        Due.due("image()", x.image(), 3);
        x.row(7);
        x.takes(0, 6);
        x.hours(1);
        Due.due("a hole more", x.wall(0, 4), 2);
        x.takes(0, 7);
        x.sells(0, 5);
        x.turn(0, 2, 3);
        x.needs(1, 0, 8);
        x.bars(1, 2);
        Due.due("a wall more", Due.tell(x, "ww11;"), 1);
        x.letter('w');
        x.hours(20);
        x.on();
        Due.due("walls", x.count(0), 1);
        Due.due("hour", x.count(1), 3);
        Due.due("at", x.wall(0, 3), 1);
        Due.due("owner", x.wall(0, 2), 0);
        Due.due("covers", x.wall(0, 5), 5);
        Due.due("has", x.house(1, 1), 5);
        Due.due("need", x.needs(1, 0, 1), 1);
        Due.due("kind and figure", x.turn(0, 0, 4), 4);
        Due.due("bars", x.house(1, 5), 4);
        Due.due("holes", x.wall(0, 4), 1);
        Due.due("row as it is", x.count(6), 1);
        Due.due("letters as they are", x.count(7), 1);
        Due.due("refusals as they are", x.count(13), 1);
        x.hours(5);
        Due.due("on() again", x.on(), 3);
        x.hours(2);
        Due.due("another image", x.image(), 5);
        x.hours(2);
        Due.due("on() from that one", x.on(), 5);
    }

    private static void count() {
        WallsByTheHour x = Due.told("wb40;ww51;m02;n3211111;n5111111;");
        Due.due("walls", x.count(0), 2);
        Due.due("hour", x.count(1), 0);
        Due.due("all lack", x.count(2), 3);
        Due.due("seen", x.count(3), 40);
        Due.due("lent", x.count(4), 1);
        Due.due("holes", x.count(5), 0);
        x.hours(6);
        Due.due("hour then", x.count(1), 6);
        Due.due("holes of all", x.count(5), x.wall(0, 4) + x.wall(1, 4));
        for (int what : new int[] {-1, 8, 9, 10, 17, 18, Integer.MAX_VALUE, Integer.MIN_VALUE}) {
            Due.due("count(" + what + ")", x.count(what), -9);
        }
        Due.due("not counted", x.count(12), 0);
        x.row(200);
        x.row(-2);
        x.row(-2);
        x.on();
        x.wall(9, 9);
        x.best(9);
        x.rain(9, 0, 2, 0);
        Due.due("refused -1", x.count(11), 2);
        Due.due("refused -2", x.count(12), 1);
        Due.due("refused -3", x.count(13), 1);
        Due.due("refused -4", x.count(14), 2);
        Due.due("refused -5", x.count(15), 0);
        Due.due("refused -6", x.count(16), 1);
    }
}
