/** Promises 35 to 37: HOURS in which houses were seen. */
final class GoneByTest {
    private GoneByTest() {
    }

    static void run() {
        wasSeen();
        longest();
        together();
        whateverComesLater();
        toTheLastHour();
    }

    private static WallsByTheHour twelveHours() {
        return Due.told("n0100100;n1110000;h12;");
    }

    private static void wasSeen() {
        WallsByTheHour x = twelveHours();
        Due.due("at 3, 6, 9, 12", x.wasSeen(0, 0, 999), 4);
        Due.due("from 3 to 6", x.wasSeen(0, 3, 6), 2);
        Due.due("from 4 to 5", x.wasSeen(0, 4, 5), 0);
        Due.due("just 9", x.wasSeen(0, 9, 9), 1);
        Due.due("at hour 0 none", x.wasSeen(0, 0, 0), 0);
        Due.due("yet to come", x.wasSeen(0, 13, 999), 0);
        Due.due("at 1, 6, 7, 12", x.wasSeen(1, 0, 12), 4);
        Due.due("never", x.wasSeen(2, 0, 999), 0);
        Due.due("wasSeen(8, -1, 0)", x.wasSeen(8, -1, 0), -1);
        Due.due("wasSeen(-1, 0, 0)", x.wasSeen(-1, 0, 0), -1);
        Due.due("wasSeen(0, -1, 1000)", x.wasSeen(0, -1, 1000), -4);
        Due.due("wasSeen(0, 1000, -1)", x.wasSeen(0, 1000, -1), -4);
        Due.due("wasSeen(0, 1000, 5)", x.wasSeen(0, 1000, 5), -6);
        Due.due("wasSeen(0, 5, 1000)", x.wasSeen(0, 5, 1000), -6);
        Due.due("wasSeen(0, 5, 4)", x.wasSeen(0, 5, 4), -3);
    }

    private static void longest() {
        WallsByTheHour x = twelveHours();
        Due.due("one hour on end", x.longest(0), 1);
        Due.due("two hours on end", x.longest(1), 2);
        Due.due("never", x.longest(2), 0);
        Due.due("longest(8)", x.longest(8), -1);
        Due.due("longest(-1)", x.longest(-1), -1);
        Due.due("hour 0 is none of them", Due.told("n0111111;h03;").longest(0), 3);
        Due.due("the first ones", Due.told("n0111110;h10;").longest(0), 5);
    }

    private static void together() {
        WallsByTheHour x = twelveHours();
        for (int turned = 0; turned < 2; turned++) {
            Due.due("both", x.together(turned, 1 - turned, 0), 2);
            Due.due("one or both", x.together(turned, 1 - turned, 1), 6);
            Due.due("just one", x.together(turned, 1 - turned, 2), 4);
        }
        Due.due("with one never seen", x.together(0, 2, 2), 4);
        Due.due("together(0, 0, 3)", x.together(0, 0, 3), -1);
        Due.due("together(8, 0, 0)", x.together(8, 0, 0), -1);
        Due.due("together(0, -1, 0)", x.together(0, -1, 0), -1);
        Due.due("together(0, 1, 3)", x.together(0, 1, 3), -2);
        Due.due("together(0, 1, -1)", x.together(0, 1, -1), -2);
    }

    private static void whateverComesLater() {
        WallsByTheHour x = twelveHours();
        x.needs(0, 0, 0);
        x.needs(0, 3, 0);
        Due.due("as it was written", x.wasSeen(0, 0, 999), 4);
        x.image();
        x.needs(0, 1, 1);
        x.needs(0, 2, 1);
        x.hours(12);
        Due.due("four more", x.wasSeen(0, 0, 999), 8);
        Due.due("on", x.on(), 12);
        Due.due("as it was then", x.wasSeen(0, 0, 999), 4);
        Due.due("longest as it was", x.longest(0), 1);
        Due.due("together as it was", x.together(0, 1, 1), 6);
        x.hours(12);
        Due.due("what comes now", x.wasSeen(0, 0, 999), 4);
        Due.due("what comes now too", x.wasSeen(0, 13, 24), 0);
        x = Due.told("ww40;n2333333;h01;n0444444;");
        Due.due("as the hour ends, not as it begins", x.wasSeen(2, 1, 1), 0);
    }

    private static void toTheLastHour() {
        WallsByTheHour x = Due.told("n0111111;");
        for (int i = 0; i < 16; i++) {
            x.hours(60);
        }
        x.hours(39);
        Due.due("all hours", x.wasSeen(0, 0, 999), 999);
        Due.due("on end", x.longest(0), 999);
        Due.due("the last one", x.wasSeen(0, 999, 999), 1);
        Due.due("together with another", x.together(0, 1, 1), 999);
    }
}
