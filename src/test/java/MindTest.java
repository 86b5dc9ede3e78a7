/** Promises 12 to 19 and 31: what comes in mind, hours on. */
final class MindTest {
    private MindTest() {
    }

    static void run() {
        then();
        pastTheLastHour();
        thenRefusals();
        goes();
        shown();
        asked();
        coughs();
        atTheEdgeOfSixty();
        lend();
        two();
        twoRefusals();
    }

    private static void then() {
        WallsByTheHour x = Due.told("ww40;n3012345;n7000002;");
        Due.due("atThen(0, 0)", x.atThen(0, 0), 0);
        Due.due("atThen(0, 1)", x.atThen(0, 1), 3);
        Due.due("atThen(0, 60)", x.atThen(0, 60), 3);
        Due.due("lacksThen(3, 0)", x.lacksThen(3, 0), 0);
        Due.due("lacksThen(3, 5)", x.lacksThen(3, 5), 0);
        Due.due("lacksThen(7, 5)", x.lacksThen(7, 5), 2);
        Due.due("lacksThen(7, 59)", x.lacksThen(7, 59), 2);
        Due.due("lacksThen(7, 60)", x.lacksThen(7, 60), 0);
        Due.due("allLack(5)", x.allLack(5), 2);
        Due.due("allLack(4)", x.allLack(4), 0);
        Due.due("in mind alone: hour", x.count(1), 0);
        Due.due("in mind alone: at", x.wall(0, 3), 0);
        Due.due("in mind alone: holes", x.count(5), 0);
        Due.due("in mind alone: seen", x.wasSeen(7, 0, 999), 0);
        x.takes(0, 6);
        Due.due("from as it is now", x.atThen(0, 1), 3);
        Due.due("all, with more houses", Due.told("n0111111;n7222222;").allLack(0), 3);
    }

    private static void pastTheLastHour() {
        WallsByTheHour x = Due.told("n0100000;n1000010;");
        for (int i = 0; i < 16; i++) {
            x.hours(60);
        }
        x.hours(39);
        Due.due("hour", x.count(1), 999);
        Due.due("hour 1001", x.lacksThen(0, 2), 0);
        Due.due("hour 1002", x.lacksThen(0, 3), 1);
        Due.due("hour 1000", x.allLack(1), 1);
        Due.due("hour 1059", x.allLack(60), 0);
        Due.due("shown at 1002", x.shown(0), 3);
        Due.due("hour as it was", x.count(1), 999);
    }

    private static void thenRefusals() {
        WallsByTheHour x = Due.told("ww40;");
        Due.due("atThen(1, -1)", x.atThen(1, -1), -1);
        Due.due("atThen(-1, 0)", x.atThen(-1, 0), -1);
        Due.due("atThen(0, -1)", x.atThen(0, -1), -4);
        Due.due("atThen(0, 61)", x.atThen(0, 61), -6);
        Due.due("lacksThen(8, 61)", x.lacksThen(8, 61), -1);
        Due.due("lacksThen(-1, 0)", x.lacksThen(-1, 0), -1);
        Due.due("lacksThen(0, -1)", x.lacksThen(0, -1), -4);
        Due.due("lacksThen(0, 61)", x.lacksThen(0, 61), -6);
        Due.due("allLack(-1)", x.allLack(-1), -4);
        Due.due("allLack(61)", x.allLack(61), -6);
        Due.due("allLack(MIN)", x.allLack(Integer.MIN_VALUE), -4);
        Due.due("refused -1, -4, -6", x.count(11) * 100 + x.count(14) * 10 + x.count(16), 443);
    }

    private static void goes() {
        WallsByTheHour x = Due.told("ww40;m03;n0000100;");
        Due.due("home behind 3", x.goes(0, 0), 3);
        Due.due("gone behind 3", x.goes(0, 1), 3);
        x.hours(3);
        Due.due("home now", x.goes(0, 0), 0);
        Due.due("never gone", x.goes(0, 1), -9);
        x.takes(0, 4);
        Due.due("never home", x.goes(0, 0), -9);
        Due.due("goes(1, 2)", x.goes(1, 2), -1);
        Due.due("goes(-1, 0)", x.goes(-1, 0), -1);
        Due.due("goes(0, 2)", x.goes(0, 2), -2);
        Due.due("goes(0, -1)", x.goes(0, -1), -2);
        x = Due.told("ww40;n0900000;n3090000;");
        Due.due("gone and home again", x.goes(0, 1), 1);
        x.hours(1);
        Due.due("home at part 0", x.goes(0, 0), 5);
    }

    private static void shown() {
        WallsByTheHour x = Due.told("n0100000;n1000001;");
        Due.due("shown now", x.shown(0), 0);
        Due.due("shown behind 5", x.shown(1), 5);
        Due.due("never", x.shown(2), -9);
        Due.due("shown(8)", x.shown(8), -1);
        Due.due("shown(-1)", x.shown(-1), -1);
        x = Due.told("ww40;n0222222;n1444444;");
        Due.due("a house shown as its wall goes", x.shown(0), 1);
    }

    private static void asked() {
        WallsByTheHour x = Due.told("ww40;ww41;m07;");
        Due.due("not all", x.asked(), -9);
        x.takes(1, 6);
        Due.due("all now", x.asked(), 0);
        x = Due.told("ww40;ww41;m07;n3000100;");
        Due.due("all behind 3", x.asked(), 3);
    }

    private static void coughs() {
        WallsByTheHour x = Due.told("ww40;n0900000;n3090000;");
        int[] hours = {0, 1, 5, 6, 7, 12, 60};
        int[] due = {0, 1, 1, 2, 3, 4, 20};
        for (int i = 0; i < hours.length; i++) {
            Due.due("coughs in " + hours[i], x.coughs(0, 3, hours[i]), due[i]);
            Due.due("the other way round in " + hours[i], x.coughs(3, 0, hours[i]), due[i]);
        }
        Due.due("of other houses", x.coughs(0, 1, 60), 0);
        Due.due("of other houses too", x.coughs(1, 3, 60), 0);
        x.hours(20);
        Due.due("in mind, from now on", x.coughs(0, 3, 4), 1);
        Due.due("coughs(0, 0, 0)", x.coughs(0, 0, 0), -1);
        Due.due("coughs(8, 0, -1)", x.coughs(8, 0, -1), -1);
        Due.due("coughs(0, -1, 61)", x.coughs(0, -1, 61), -1);
        Due.due("coughs(0, 1, -1)", x.coughs(0, 1, -1), -4);
        Due.due("coughs(0, 1, 61)", x.coughs(0, 1, 61), -6);
        x = Due.told("ww00;ww00;n3333333;");
        Due.due("of two walls", x.coughs(0, 3, 1), 2);
    }

    /** What comes just 60 HOURS on is told, what comes 61 on is not. */
    private static void atTheEdgeOfSixty() {
        WallsByTheHour x = Due.told("wb64;wb46;ww71;wo84;wf27;wp57;m01;m10;m25;m32;m41;m51;");
        Due.tell(x, "n0002010;n1030000;n2000100;n3000065;n4003009;n5300000;n6904608;n7000498;h04;");
        Due.due("home behind 61", x.goes(3, 0), -9);
        x.hours(1);
        Due.due("home behind 60", x.goes(3, 0), 60);
        x = Due.told("wb86;wf57;ww50;ww34;wb92;wb94;wo01;m00;m11;m25;m33;m43;m50;m65;");
        Due.tell(x, "n0301610;n1027063;n2690050;n3230400;n4600051;n5509506;h41;");
        Due.due("gone behind 61", x.goes(6, 1), -9);
        x.hours(1);
        Due.due("gone behind 60", x.goes(6, 1), 60);
        x = Due.told("wb27;wl05;ww21;wo87;wp96;ww56;m06;m17;m27;m30;m45;m57;");
        Due.tell(x, "n0540100;n1293002;n2081300;n3300080;n4003400;n5030901;n6800000;n7950700;h06;");
        Due.due("shown behind 61", x.shown(5), -9);
        x.hours(1);
        Due.due("shown behind 60", x.shown(5), 60);
        x = Due.told("wl32;wp70;ww87;wb97;ww85;wf87;m14;m26;m35;m46;m51;");
        Due.tell(x, "n0105705;n1305859;n2406000;n3800000;n5700406;n6874184;n7319341;h11;");
        Due.due("asked behind 61", x.asked(), -9);
        x.hours(1);
        Due.due("asked behind 60", x.asked(), 60);
    }

    private static void lend() {
        WallsByTheHour x = Due.told("wb10;n7222222;");
        Due.due("where it is most lacking", x.lend(0), 7);
        Due.due("it goes there as it is", x.lend(1), -9);
        x = Due.told("wb10;wb30;n7222222;");
        Due.due("with which all lack least", x.lend(0), 17);
        x = Due.told("ww10;ww10;n2111111;n5111111;");
        Due.due("the first by walls, then by houses", x.lend(0), 2);
        x = Due.told("ww10;n4111111;");
        Due.due("which a wall does not reach", x.lend(3), 1);
        x = Due.told("wl90;n6444444;");
        Due.due("hours on from beside it", x.lend(1), 5);
        Due.due("to the first house", Due.told("ww17;n0111111;").lend(0), 0);
        Due.due("each by itself", Due.told("ww20;ww21;n0333333;n5111111;").lend(0), 15);
        Due.due("lend(-1)", x.lend(-1), -4);
        Due.due("lend(13)", x.lend(13), -6);
        Due.due("lend(12)", x.lend(12), 5);
        Due.due("no walls", Due.told("n0999999;").lend(12), -9);
        Due.due("nothing lacks", Due.told("ww40;").lend(0), -9);
    }

    private static void two() {
        WallsByTheHour x = Due.told("ww40;ww41;m03;m14;n0555555;n1555555;");
        Due.due("both home", x.two(0, 1, 0), 11);
        Due.due("both go home", x.two(0, 1, 1), 0);
        Due.due("nothing changed", x.wall(0, 3) * 10 + x.wall(1, 3), 34);
        x = Due.told("ww40;ww41;m01;m17;n0555555;n1555555;");
        Due.due("the other one's home", x.two(0, 1, 1), 1);
        Due.due("the first one's home", x.two(1, 0, 1), 10);
        Due.due("none lacks", Due.told("ww40;ww41;").two(0, 1, 30), 0);
        x = Due.told("wl01;wp46;wb55;wf70;m12;m11;m07;n1045220;n3168685;n6070800;n7000009;n2005110;n4900010;");
        Due.due("no pair holds", x.two(0, 1, 3), -9);
    }

    private static void twoRefusals() {
        WallsByTheHour x = Due.told("ww40;ww41;");
        Due.due("two(0, 0, 0)", x.two(0, 0, 0), -1);
        Due.due("two(0, 2, 0)", x.two(0, 2, 0), -1);
        Due.due("two(2, 0, -1)", x.two(2, 0, -1), -1);
        Due.due("two(-1, 0, 31)", x.two(-1, 0, 31), -1);
        Due.due("two(0, 1, -1)", x.two(0, 1, -1), -4);
        Due.due("two(0, 1, 31)", x.two(0, 1, 31), -6);
    }
}
