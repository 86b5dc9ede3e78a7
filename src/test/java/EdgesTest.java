import java.util.stream.Collectors;
import java.util.stream.IntStream;

/** The sentences of the document that name an edge (the full, the empty, the last, a tie), each at that edge. */
final class EdgesTest {
    private static final String SEVEN = "ww00;".repeat(7);

    private EdgesTest() {
    }

    static void run() throws Exception {
        aNewObject();
        manyLetters();
        everySignAtEveryPlace();
        wallsOfAStreet();
        housesOfAStreet();
        hoursOfAStreet();
        ofSeveralFaults();
        covers();
        goings();
        lacks();
        anHour();
        sevenWalls();
        lastHours();
        pastTheLastHour();
    }

    private static void aNewObject() throws Exception {
        Script.run("# 1: no WALLS, no NEEDS, nobody BARS anybody, HOUR 0, nothing told, nothing seen, nothing refused",
            IntStream.of(0, 1, 2, 3, 4, 5, 6, 7, 11, 12, 13, 14, 15, 16).mapToObj(what -> "count(" + what + ") = 0")
                .collect(Collectors.joining("\n")),
            IntStream.range(0, 8).mapToObj(house -> "house(" + house + ", 0) = 0\nhouse(" + house + ", 5) = 0\nlongest("
                + house + ") = 0\nsees(" + house + ") = 0").collect(Collectors.joining("\n")),
            """
            wall(0, 0) = -1
            asked() = -9
            lend(0) = -9
            spare() = 0
            coldest(0) = 0
            coldest(1) = 0
            best(0) = -9
            best(1) = -9
            best(2) = 0
            best(3) = 0
            best(4) = 0
            each(0) = -3
            close(0, 0) = 0
            close(0, 1) = 0
            split(0, 7, 0) = 0
            shares(0, 7) = 0
            mean(0) = 0
            mean(1) = 1
            judge() = -9
            clear() = 0
            street() = -1000
            on() = -3
            image() = 0
            on() = 0
            """,
            IntStream.range(0, 48).mapToObj(i -> "needs(" + i / 6 + ", " + i % 6 + ", 0) = 0").collect(Collectors.joining("\n")));
    }

    private static void manyLetters() throws Exception {
        Script.run("""
            # 2: 96 letters at most, the next one is refused for room, one below as below
            95 times letter(119)
            letter(0) = 96
            letter(0) = -6
            letter(255) = -6
            letter(256) = -6
            letter(-1) = -4
            count(7) = 96
            count(16) = 3
            count(14) = 1
            # 3: the letters are no more, with a FAULT neither
            street() = -1002
            count(7) = 0
            letter(255) = 1
            letter(0) = 2
            street() = -1000
            street() = -1000
            """);
        Script.run("# 3: a street of 96 letters", "tell " + "b01;".repeat(23) + "b02; = 24", "house(0, 5) = 6", "count(7) = 0");
        Script.run("# 3: what breaks off with the last letter is at fault at the end",
            "tell " + "n0111111;".repeat(10) + "n01111 = -1096", "house(0, 0) = 0", "letter(59) = 1");
        Script.run("# 3: the last letter is at fault",
            "tell " + "b01;".repeat(23) + "b01x = -1095", "house(0, 5) = 0", "letter(59) = 1");
        Script.run("# 3: the last STATEMENT is at fault",
            "tell " + "b01;".repeat(23) + "b00; = -2092", "house(0, 5) = 0", "letter(59) = 1");
        Script.run("""
            # 3: a STREET has at least one STATEMENT, each with ";" behind
            street() = -1000
            tell ; = -1000
            tell b01;; = -1004
            tell b01 = -1003
            tell b01;b02 = -1007
            house(0, 5) = 0
            tell b01; = 1
            house(0, 5) = 2
            """);
    }

    /** Each STATEMENT, alone and behind others, broken off by each sign at each of its places. */
    private static void everySignAtEveryPlace() {
        String[] whole = {"wf40;", "m00;", "s00;", "n0123456;", "b01;", "h01;"};
        for (String ahead : new String[] {"", "ww40;", "h60;b76;"}) {
            int count = (int) ahead.chars().filter(c -> c == ';').count();
            for (String statement : whole) {
                for (int place = 0; place < statement.length(); place++) {
                    String fits = place == 0 ? "wmsnbh" : place == statement.length() - 1 ? ";"
                        : place == 1 && statement.charAt(0) == 'w' ? "wobplf" : "0123456789";
                    for (char sign = 0; sign <= 255; sign++) {
                        String text = ahead + statement.substring(0, place) + sign;
                        boolean goesOn = fits.indexOf(sign) >= 0;
                        boolean isWhole = sign == ';' && goesOn;
                        boolean hasSense = !ahead.isEmpty() && !ahead.startsWith("h") || "wnbh".indexOf(statement.charAt(0)) >= 0;
                        int due = isWhole ? hasSense ? count + 1 : -2000 - ahead.length()
                            : -1000 - text.length() + (goesOn ? 0 : 1);
                        Due.due("3: sign " + (int) sign + " at " + place + " of " + statement + " behind '" + ahead + "'",
                            Due.tell(new WallsByTheHour(), text), due);
                    }
                }
            }
        }
    }

    private static void wallsOfAStreet() throws Exception {
        Script.run("""
            # 3: an OWNER is a house, FIGURE any digit
            tell ww07; = 1
            tell wf90; = 1
            tell ww08; = -2000
            tell ww09; = -2000
            wall(0, 2) = 7
            wall(0, 3) = 7
            wall(0, 4) = 0
            wall(1, 1) = 9
            count(0) = 2
            # 3: no such WALL so far
            tell m10; = 1
            tell m20; = -2000
            tell s10; = 1
            tell s20; = -2000
            tell m90; = -2000
            tell s90; = -2000
            tell ww00;m27; = 2
            wall(2, 3) = 7
            tell m37;ww00; = -2000
            tell ww00;m47; = -2005
            tell ww00;s47; = -2005
            # 3: no such house
            tell m07;s07; = 2
            tell m08; = -2000
            tell m09; = -2000
            tell s08; = -2000
            tell s09; = -2000
            # 3: taken there HOLES stay, sold it stays where it is
            tell m02;s04; = 2
            wall(0, 3) = 2
            wall(0, 2) = 4
            wall(0, 4) = 0
            """);
        Script.run("# 3: seven WALLS at most",
            "tell " + SEVEN + " = 7", "count(0) = 7", "tell ww00; = -2000", "tell b01;ww00; = -2004", "count(0) = 7",
            "tell m60;s67; = 2", "tell m70; = -2000", "wall(6, 2) = 7", "wall(7, 2) = -1");
        Script.run("# 3: seven WALLS at most, those ahead and those told", "tell " + SEVEN + "ww00; = -2035", "count(0) = 0",
            "tell " + SEVEN.substring(5) + " = 6", "tell ww00;ww00; = -2005", "count(0) = 6", "tell ww00; = 1", "count(0) = 7");
    }

    private static void housesOfAStreet() throws Exception {
        Script.run("""
            # 3: NEEDS of a house
            tell n0999999;n7123450; = 2
            tell n8000000; = -2000
            tell n9000000; = -2000
            house(0, 0) = 9
            house(7, 0) = 1
            needs(7, 4, 5) = 5
            needs(7, 5, 0) = 0
            tell n0000000; = 1
            house(0, 0) = 0
            # 3: one BARS the other one, told again no more
            tell b07;b70; = 2
            house(0, 5) = 128
            house(7, 5) = 1
            tell b08; = -2000
            tell b80; = -2000
            tell b90; = -2000
            tell b00; = -2000
            tell b77; = -2000
            tell b07; = 1
            house(0, 5) = 0
            house(7, 5) = 1
            tell b07;b07;b07; = 3
            house(0, 5) = 128
            # 9: by hand as told
            bars(0, 7) = 0
            bars(7, 0) = 0
            bars(7, 0) = 1
            tell b70; = 1
            house(7, 5) = 0
            """);
    }

    private static void hoursOfAStreet() throws Exception {
        Script.run("""
            # 3: HOURS 1 .. 60
            tell h00; = -2000
            tell h01; = 1
            tell h60; = 1
            tell h61; = -2000
            tell h99; = -2000
            tell b01;h00; = -2004
            tell b01;h61; = -2004
            count(1) = 61
            house(0, 5) = 0
            """);
        Script.run("""
            # 3: HOUR 999 at most
            15 times hours(60)
            tell h39; = 1
            tell h60;b01; = 2
            count(1) = 999
            tell h01; = -2000
            tell b02;h01; = -2004
            tell h60; = -2000
            house(0, 5) = 2
            """);
        Script.run("""
            # 3: HOUR 999 at most, those ahead in the text as well
            15 times hours(60)
            hours(40) = 0
            tell h60; = -2000
            tell h59;h01; = -2004
            tell h01;h59; = -2004
            count(1) = 940
            tell h58;h01; = 2
            count(1) = 999
            """);
        Script.run("""
            # 3: HOURS told are written down
            tell n0100100;n1110000;h12; = 3
            wasSeen(0, 0, 999) = 4
            wasSeen(1, 6, 7) = 2
            longest(1) = 2
            """);
    }

    private static void ofSeveralFaults() throws Exception {
        Script.run("""
            # 3: kind 1 goes ahead of kind 2, wherever it stands
            tell b00;x = -1004
            tell b00;b0 = -1006
            tell h61;ww08;ww0x; = -1012
            tell ww0;b00; = -1003
            # 3: of several of a kind the first
            tell b01;b00;b11; = -2004
            tell b0;b1; = -1002
            # 3: all of it comes, or with one FAULT nothing
            tell ww40;m03;s02;n0123456;b01;h05;b00; = -2030
            tell ww40;m03;s02;n0123456;b01;h05;b0x; = -1032
            count(0) = 0
            tell ww40;m03;s02;n0123456;b01;h05;b03; = 7
            count(1) = 5
            # 3: no FAULT is counted
            count(11) = 0
            count(12) = 0
            count(13) = 0
            count(14) = 0
            count(16) = 0
            """);
    }

    private static void covers() {
        int[] plain = {1, 2, 3, 4, 5, 6, 7, 8, 9, 10};
        int[] oven = {4, 5, 6, 7, 8, 9, 10, 11, 12, 13};
        int[] back = {0, 1, 1, 2, 2, 3, 3, 4, 4, 5};
        int[] lane = {1, 2, 2, 3, 3, 4, 4, 5, 5, 6};
        int[] fine = {2, 4, 6, 8, 10, 12, 14, 16, 18, 20};
        int[][] early = {plain, oven, back, plain, lane, fine};
        int[][] late = {plain, plain, back, plain, lane, fine};
        for (int kind = 0; kind < 6; kind++) {
            WallsByTheHour x = Due.told("ww00;");
            for (int hour = 0; hour <= 12; hour++) {
                for (int figure = 0; figure <= 9; figure++) {
                    x.turn(0, kind, figure);
                    int due = hour % 6 <= 2 ? early[kind][figure] : late[kind][figure];
                    Due.due("KINDS: what " + kind + " of " + figure + " covers at HOUR " + hour, x.wall(0, 5), due);
                }
                x.hours(1);
            }
        }
    }

    /** Each KIND from each house to each other one, with nobody in the way and barred, either way. */
    private static void goings() {
        String[] far = {"01110000", "01110000", "01111111", "00101010", "01000000", "01101010"};
        for (int kind = 0; kind < 6; kind++) {
            for (int from = 0; from < 8; from++) {
                WallsByTheHour x = Due.told("ww0" + from + ";");
                x.turn(0, kind, 0);
                for (int to = 0; to < 8; to++) {
                    String call = "KINDS: " + kind + " from " + from + " to " + to;
                    int due = far[kind].charAt(Math.abs(from - to)) - '0';
                    Due.due(call, x.ways(0, to, 1), due);
                    x.bars(to, from);
                    Due.due(call + ", barred the other way", x.ways(0, to, 1), due);
                    x.bars(from, to);
                    Due.due(call + ", barred", x.ways(0, to, 1), from == to ? due : 0);
                    x.bars(from, to);
                    Due.due(call + ", no more", x.ways(0, to, 1), due);
                }
            }
        }
    }

    private static void lacks() throws Exception {
        Script.run("""
            # LACKS: NEED less HAS, 0 at least; SEEN: more than 0
            tell ww40;n0555555; = 2
            house(0, 2) = 0
            count(2) = 0
            count(3) = 0
            shown(0) = -9
            sees(0) = 0
            mean(1) = 1
            turn(0, 0, 3) = 4
            house(0, 2) = 1
            count(2) = 1
            count(3) = 1
            best(3) = 1
            shown(0) = 0
            sees(0) = 254
            turn(0, 0, 9) = 3
            house(0, 1) = 10
            house(0, 2) = 0
            count(2) = 0
            # HAS without WALLS
            takes(0, 7) = 0
            house(0, 1) = 0
            house(0, 2) = 5
            house(0, 3) = 0
            house(0, 4) = 1
            house(7, 2) = 0
            # NEED at the PART: HOUR modulo 6
            tell m00;n0123456;n1000009; = 3
            house(0, 0) = 1
            hours(5) = 6
            house(0, 0) = 6
            house(1, 0) = 9
            hours(1) = 0
            house(0, 0) = 1
            house(1, 0) = 0
            hours(60) = 0
            house(0, 0) = 1
            # LENT: AT another house than its OWNER
            count(4) = 0
            sells(0, 1) = 0
            count(4) = 1
            takes(0, 1) = 0
            count(4) = 0
            """);
    }

    private static void anHour() throws Exception {
        Script.run("""
            # AN HOUR: home if the OWNER LACKS more than 0
            tell ww40;m03;n0001111; = 3
            hours(1) = 0
            wall(0, 3) = 3
            hours(1) = 0
            wall(0, 3) = 0
            wall(0, 4) = 1
            # AN HOUR: one that is AT its OWNER stays there if no other house LACKS more
            tell n1011111; = 1
            hours(1) = 1
            wall(0, 3) = 0
            needs(1, 4, 2) = 1
            hours(1) = 1
            wall(0, 3) = 1
            wall(0, 4) = 2
            """);
        Script.run("""
            # AN HOUR: to another house if that LACKS more than its own would without it, not as much
            tell wb33;n3222222;n7222222; = 3
            hours(1) = 2
            wall(0, 3) = 3
            needs(7, 2, 3) = 2
            hours(1) = 3
            wall(0, 3) = 7
            # AN HOUR: its own house would LACK nothing without it, and the other LACKS nothing
            tell n0000000;n3000000;n7000000; = 3
            hours(6) = 0
            wall(0, 3) = 7
            wall(0, 4) = 1
            # AN HOUR: of several that LACK most the least
            tell n0000111;n5000111;n6000111; = 3
            hours(1) = 2
            wall(0, 3) = 0
            hours(1) = 2
            wall(0, 3) = 0
            """);
        Script.run("""
            # AN HOUR: HOUR is 1 more first, then each WALL at the new PART, then it is written down
            tell wo03;n3444444;n4050000; = 3
            hours(1) = 5
            wall(0, 3) = 4
            wasSeen(3, 1, 1) = 1
            wasSeen(4, 1, 1) = 1
            hours(1) = 0
            wall(0, 3) = 3
            wasSeen(3, 2, 2) = 0
            """);
        Script.run("# AN HOUR: each WALL by numbers, as all is by then", "tell " + SEVEN + "n1777777; = 8",
            "hours(1) = 0", "count(5) = 7", "count(4) = 127");
        Script.run("# AN HOUR: each WALL by numbers, the last one is not needed", "tell " + SEVEN + "n1666666; = 8",
            "hours(1) = 0", "count(5) = 6", "count(4) = 63", "wall(6, 3) = 0", "house(1, 3) = 63");
        Script.run("""
            # AN HOUR: home if it CAN GO there, 3 STEPS at most and not barred
            tell ww00;m04;n0111111;b30; = 4
            hours(60) = 1
            wall(0, 3) = 4
            takes(0, 3) = 4
            hours(60) = 1
            wall(0, 3) = 3
            bars(3, 0) = 0
            hours(1) = 0
            wall(0, 3) = 0
            """);
    }

    private static void sevenWalls() throws Exception {
        Script.run("# all seven WALLS, all LENT", "tell " + SEVEN + "n1777777; = 8",
            """
            asked() = 1
            goes(6, 1) = 1
            goes(6, 0) = 0
            coughs(0, 1, 1) = 7
            coughs(1, 0, 60) = 7
            lend(0) = 1
            close(1, 0) = 127
            close(1, 1) = 7
            split(1, 2, 0) = 7
            split(1, 2, 1) = 127
            split(2, 1, 2) = 127
            spare() = 127
            best(2) = 0
            best(4) = 0
            house(0, 3) = 127
            house(0, 4) = 127
            count(4) = 0
            hours(1) = 0
            best(2) = 127
            count(4) = 127
            count(5) = 7
            spare() = 0
            asked() = 0
            needs(1, 1, 8) = 7
            close(1, 0) = -9
            close(1, 1) = -9
            split(1, 2, 0) = -9
            """);
        Script.run("# 21: all seven WALLS to either house", "tell " + SEVEN + "n1444444;n2333333; = 9",
            "split(1, 2, 0) = 10", "split(1, 2, 1) = 120", "split(1, 2, 2) = 7", "split(2, 1, 1) = 112", "split(2, 1, 2) = 15",
            "needs(1, 0, 5) = 4", "split(1, 2, 0) = -9", "split(1, 2, 1) = -9", "split(1, 2, 2) = -9");
        Script.run("# 19: the last WALL to the last house", "tell " + "wb00;".repeat(6) + "ww20;n7333333; = 8",
            "lend(0) = 67", "lend(1) = 64", "lend(12) = 64", "lend(13) = -6", "lend(-1) = -4", "best(0) = 6", "best(1) = 0",
            "takes(6, 7) = 0", "lend(0) = -9", "best(1) = 7");
        Script.run("# 24: seven WALLS alike are never shared out", "tell " + SEVEN + " = 7", "shares(0, 7) = -9",
            "turn(6, 2, 0) = 0", "shares(0, 7) = -9");
        Script.run("# 30: the one does not SEE the other one, closed in", "tell " + SEVEN + "m67;n7111111; = 9", "hide(5, 7) = -3");
        Script.run("# 30: the last WALL", "tell " + SEVEN + "m67;n7222222; = 9", "hide(5, 7) = 66", "hide(6, 7) = -9",
            "hide(0, 7) = 1", "takes(6, 6) = 7", "hide(5, 7) = -3");
        Script.run("# 25: as many NEEDS as there can be",
            "tell " + IntStream.range(0, 8).mapToObj(house -> "n" + house + "999999;").collect(Collectors.joining()) + " = 8",
            "coldest(0) = 0", "coldest(1) = 72", "count(2) = 72", "count(3) = 255", "mean(0) = 9", "mean(1) = 1", "sees(7) = 127",
            "lots(20, 1, 0) = 1440", "lots(20, 1, 1) = 160", "lots(1, 1, 0) = 72", "lots(1, 1, 1) = 8");
    }

    private static void lastHours() throws Exception {
        Script.run("""
            # 11: HOUR 999 at most
            tell n0111111; = 1
            15 times hours(60)
            hours(39) = 1
            hours(61) = -6
            hours(60) = 1
            count(1) = 999
            hours(1) = -6
            hours(60) = -6
            hours(0) = -4
            # 36: all HOURS but HOUR 0
            longest(0) = 999
            wasSeen(0, 0, 999) = 999
            wasSeen(0, 0, 0) = 0
            wasSeen(0, 1, 1) = 1
            wasSeen(0, 999, 999) = 1
            together(0, 7, 0) = 0
            together(0, 7, 1) = 999
            together(7, 0, 2) = 999
            # 43: at the last HOUR
            image() = 999
            needs(0, 3, 0) = 1
            on() = 999
            house(0, 0) = 1
            hours(1) = -6
            """);
        Script.run("""
            # 11: HOUR 999 at most
            15 times hours(60)
            hours(40) = 0
            hours(60) = -6
            count(1) = 940
            hours(59) = 0
            count(1) = 999
            """);
    }

    private static void pastTheLastHour() throws Exception {
        Script.run("""
            # II: in thought HOUR may pass 999
            tell ww40;wl01;n3123456;n6009000; = 4
            16 times hours(60)
            hours(39) = 0
            wall(0, 3) = 3
            wasSeen(3, 995, 999) = 2
            allLack(1) = 0
            allLack(2) = 1
            allLack(60) = 0
            allLack(61) = -6
            lacksThen(3, 2) = 1
            lacksThen(3, 56) = 1
            atThen(0, 60) = 3
            shown(3) = 2
            shown(0) = -9
            goes(0, 0) = -9
            goes(0, 1) = 5
            asked() = -9
            coughs(3, 6, 60) = 20
            lend(2) = 12
            lend(12) = -9
            two(0, 1, 30) = 0
            two(0, 1, 31) = -6
            rain(3, 1, 3, 0) = 1
            rain(3, 1, 3, 1) = 3
            rain(3, 2, 2, 0) = 1
            rain(3, 2, 2, 1) = 1
            lots(1, 1, 1) = 0
            row(0) = 1
            row(0) = 2
            row(1) = 3
            row(0) = 4
            judge() = -9
            row(3) = 1
            row(3) = 2
            whatIs(0, 0) = 63
            whatIs(0, 1) = 1023
            count(1) = 999
            """);
    }
}
