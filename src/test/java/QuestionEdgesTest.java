/** The sentences of part II and of promises 12 to 45 that name an edge, each at that edge. */
final class QuestionEdgesTest {
    private QuestionEdgesTest() {
    }

    static void run() throws Exception {
        inMind();
        whenFirst();
        lend();
        close();
        split();
        spareAndPrice();
        shares();
        bestAndEach();
        panes();
        seesAndHide();
        two();
        waysAndRain();
        goneBy();
        rows();
        rowsAndLettersStay();
        image();
        refusals();
    }

    private static void inMind() throws Exception {
        Script.run("""
            # 12, 13, 14: 0 HOURS on it is as now, 60 at most
            tell ww40;n3001000;n7000002; = 3
            atThen(0, 0) = 0
            atThen(0, 1) = 0
            atThen(0, 2) = 3
            atThen(0, 60) = 3
            atThen(0, 61) = -6
            atThen(0, -1) = -4
            lacksThen(7, 0) = 0
            lacksThen(7, 4) = 0
            lacksThen(7, 5) = 2
            lacksThen(7, 59) = 2
            lacksThen(7, 60) = 0
            allLack(0) = 0
            allLack(1) = 0
            allLack(5) = 2
            allLack(60) = 0
            allLack(61) = -6
            count(1) = 0
            count(5) = 0
            wasSeen(7, 0, 999) = 0
            """);
    }

    private static void whenFirst() throws Exception {
        Script.run("""
            # 15: HOME behind 0 HOURS already, GONE behind 1 at the soonest
            tell ww40;m03;n0011111;n3000000; = 4
            goes(0, 0) = 1
            goes(0, 1) = 1
            takes(0, 4) = 3
            goes(0, 0) = -9
            goes(0, 1) = -9
            sells(0, 4) = 0
            goes(0, 0) = 0
            goes(0, 1) = -9
            # 16: SHOWN behind 0 HOURS
            shown(0) = 1
            shown(4) = -9
            needs(0, 0, 1) = 0
            shown(0) = 0
            # 17: ASKED behind 0 HOURS, all WALLS
            asked() = -9
            sells(0, 0) = 4
            asked() = 0
            tell ww01; = 1
            asked() = 1
            takes(1, 2) = 1
            asked() = 0
            """);
        Script.run("""
            # 17: -9 without WALLS, and it is no refusal
            tell n0999999; = 1
            asked() = -9
            shown(0) = 0
            shown(7) = -9
            count(11) = 0
            count(13) = 0
            """);
        Script.run("""
            # 18: COUGHS either way, in no HOURS none, those gone by not again
            tell ww40;n0900000;n3090000; = 3
            coughs(0, 3, 0) = 0
            coughs(0, 3, 1) = 1
            coughs(3, 0, 5) = 1
            coughs(3, 0, 6) = 2
            coughs(0, 3, 60) = 20
            coughs(0, 3, 61) = -6
            coughs(0, 3, -1) = -4
            coughs(0, 2, 60) = 0
            coughs(2, 3, 60) = 0
            coughs(0, 0, 0) = -1
            coughs(7, 7, 61) = -1
            hours(6) = 4
            coughs(0, 3, 0) = 0
            coughs(0, 3, 1) = 1
            """);
    }

    private static void lend() throws Exception {
        Script.run("""
            # 19: less than as it is, not as much
            tell ww00;n0111111;n1111111; = 3
            lend(0) = -9
            lend(12) = -9
            needs(0, 0, 0) = 1
            lend(0) = 1
            # 19: of several the first by WALLS, then by houses
            tell ww00;n2111111;n5111111; = 3
            lend(0) = 1
            needs(1, 0, 0) = 1
            lend(0) = 2
            takes(0, 2) = 0
            lend(0) = 15
            takes(1, 5) = 0
            lend(0) = -9
            """);
        Script.run("""
            # 19: without WALLS none, though all LACK
            tell n0999999; = 1
            lend(0) = -9
            lend(12) = -9
            lend(13) = -6
            lend(-1) = -4
            """);
    }

    private static void close() throws Exception {
        Script.run("""
            # 20: just as much as it LACKS, and 1 less
            tell ww40;ww37;n3999999; = 3
            close(3, 0) = 3
            close(3, 1) = 7
            turn(1, 0, 2) = 3
            close(3, 0) = -9
            close(3, 1) = -9
            # 20: those that are there are not taken
            takes(1, 3) = 7
            close(3, 0) = -9
            needs(3, 0, 8) = 9
            close(3, 0) = 1
            close(3, 1) = 3
            # 20: no WALLS if it LACKS 0 as it is
            needs(3, 0, 3) = 8
            close(3, 0) = 0
            close(3, 1) = 0
            needs(3, 0, 4) = 3
            close(3, 0) = 1
            # 20: by fewest STEPS, of several the least bits
            takes(1, 2) = 3
            needs(3, 0, 3) = 4
            close(3, 0) = 2
            close(3, 1) = 1
            takes(0, 4) = 0
            close(3, 0) = 1
            close(3, 1) = 1
            close(0, 0) = 0
            close(7, 0) = 0
            """);
        Script.run("""
            # 20: a WALL that covers nothing is taken for nothing, even if it is as near as can be
            tell wb04;ww02;n3111111; = 3
            close(3, 0) = 2
            close(3, 1) = 1
            """);
    }

    private static void split() throws Exception {
        Script.run("""
            # 21: both LACK 0 as it is: each WALL stays
            tell ww40;ww47;n0555555;n7555555; = 4
            split(0, 7, 0) = 0
            split(0, 7, 1) = 0
            split(0, 7, 2) = 0
            # 21: one of them LACKS 1
            needs(7, 0, 6) = 5
            split(0, 7, 0) = -9
            split(0, 7, 1) = -9
            split(7, 0, 2) = -9
            needs(0, 0, 0) = 5
            split(0, 7, 0) = 7
            split(0, 7, 1) = 0
            split(0, 7, 2) = 1
            split(7, 0, 1) = 1
            split(7, 0, 2) = 0
            split(0, 0, 0) = -1
            split(0, 7, 3) = -2
            """);
        Script.run("""
            # 21: of several the least sum: WALL 0 counts least
            tell ww01;ww01;n0111111;n2111111; = 4
            split(0, 2, 0) = 2
            split(0, 2, 1) = 2
            split(0, 2, 2) = 1
            split(2, 0, 1) = 2
            split(2, 0, 2) = 1
            # 21: a WALL more that is not needed stays
            tell ww01; = 1
            split(0, 2, 0) = 2
            split(0, 2, 1) = 2
            split(0, 2, 2) = 1
            """);
        Script.run("""
            # 21: without WALLS both are closed in, or none
            tell n3111111; = 1
            split(0, 7, 0) = 0
            split(0, 7, 1) = 0
            split(0, 7, 2) = 0
            split(3, 7, 0) = -9
            split(7, 3, 1) = -9
            split(7, 3, 2) = -9
            """);
    }

    private static void spareAndPrice() throws Exception {
        Script.run("""
            # 22: no more without it, 1 more without it
            tell ww40;ww00;n0555555; = 3
            spare() = 2
            needs(0, 0, 6) = 5
            spare() = 0
            needs(0, 0, 1) = 6
            spare() = 3
            needs(0, 0, 2) = 1
            spare() = 2
            # 22: it LACKS as it is
            needs(0, 0, 9) = 2
            spare() = 0
            turn(1, 2, 0) = 0
            spare() = 2
            """);
        Script.run("""
            # 23: what GIVES 0 is no BUYER, what GIVES 1 is
            tell ww40;n3333333; = 2
            price(0, 0) = -9
            price(0, 1) = 0
            needs(3, 0, 4) = 3
            price(0, 0) = 3
            price(0, 1) = 0
            # 23: no more than the WALL COVERS
            needs(3, 0, 9) = 4
            needs(1, 0, 3) = 0
            price(0, 0) = 1
            price(0, 1) = 2
            # 23: of several the least, and what the other one GIVES
            needs(1, 0, 2) = 3
            needs(2, 0, 3) = 0
            price(0, 0) = 3
            price(0, 1) = 1
            needs(3, 0, 3) = 9
            price(0, 0) = 1
            price(0, 1) = 1
            price(1, 0) = -1
            price(0, 2) = -2
            """);
    }

    private static void shares() throws Exception {
        Script.run("""
            # 24: no WALLS, one, two alike, three alike, four alike
            shares(0, 7) = 0
            tell ww43; = 1
            shares(0, 7) = -9
            tell ww43; = 1
            shares(0, 7) = 1
            tell ww43; = 1
            shares(0, 7) = -9
            tell ww43; = 1
            shares(0, 7) = 3
            shares(7, 0) = 3
            # 24: as much is no less; 1 less is envied
            turn(3, 0, 3) = 4
            shares(0, 7) = -9
            turn(2, 0, 3) = 4
            shares(0, 7) = 5
            # 24: most WORTH together ahead of the least bits
            sells(0, 7) = 3
            sells(3, 0) = 3
            shares(0, 7) = 10
            shares(7, 0) = 3
            shares(7, 7) = -1
            """);
    }

    private static void bestAndEach() throws Exception {
        Script.run("""
            # 25: of several PARTS the least
            tell n0900009; = 1
            coldest(0) = 0
            coldest(1) = 9
            needs(7, 5, 1) = 0
            coldest(0) = 5
            coldest(1) = 10
            needs(6, 0, 1) = 0
            coldest(0) = 0
            # 26: of several WALLS the least; one that COVERS nothing
            tell wb07;wb06; = 2
            best(0) = 0
            best(1) = 7
            turn(1, 0, 0) = 20
            best(0) = 1
            best(1) = 6
            turn(0, 0, 0) = 20
            best(0) = 0
            # 26: WARMER, only as the next PART is the day's first
            turn(1, 1, 0) = 0
            best(4) = 0
            hours(5) = 9
            best(4) = 2
            hours(1) = 9
            best(4) = 0
            hours(2) = 0
            best(4) = 0
            hours(1) = 0
            best(4) = 0
            """);
        Script.run("""
            # 27: HAS by how many, cut; no WALL is AT it; WALLS that COVER nothing
            tell ww07;ww17;wb00; = 3
            each(7) = 1
            each(0) = 0
            each(1) = -3
            turn(1, 0, 2) = 1
            each(7) = 2
            takes(2, 7) = 0
            each(7) = 1
            each(0) = -3
            each(-1) = -1
            each(8) = -1
            """);
    }

    private static void panes() throws Exception {
        Script.run("""
            # 28: PANES of a PANE and of a FINE, others have none
            tell wp00; = 1
            panes(0) = 1
            turn(0, 3, 1) = 30
            panes(0) = 1
            turn(0, 3, 2) = 31
            panes(0) = 2
            turn(0, 3, 9) = 32
            panes(0) = 5
            turn(0, 5, 0) = 39
            panes(0) = 4
            turn(0, 5, 9) = 50
            panes(0) = 8
            turn(0, 0, 9) = 59
            panes(0) = -3
            turn(0, 1, 9) = 9
            panes(0) = -3
            turn(0, 2, 9) = 19
            panes(0) = -3
            turn(0, 4, 9) = 29
            panes(0) = -3
            panes(1) = -1
            """);
    }

    private static void seesAndHide() throws Exception {
        Script.run("""
            # 29: no WALL AT a house between them; one AT either of them is in nobody's way
            tell ww00;ww07;n0222222;n7222222; = 4
            sees(0) = 254
            sees(7) = 127
            takes(0, 1) = 0
            sees(0) = 2
            sees(7) = 126
            takes(0, 6) = 1
            sees(0) = 126
            sees(7) = 64
            # 29: not SEEN, none SEES it
            sees(3) = 0
            needs(7, 0, 1) = 2
            sees(7) = 0
            """);
        Script.run("""
            # 30: the one SEES the other one, or it is refused; between neighbours there is no house
            tell ww00;ww07;n0222222;n7222222; = 4
            hide(7, 0) = 1
            hide(0, 7) = 1
            hide(2, 0) = 1
            hide(1, 0) = -9
            hide(6, 7) = -9
            hide(5, 7) = 16
            hide(0, 3) = -3
            takes(1, 1) = 7
            hide(2, 0) = -3
            hide(1, 0) = -9
            hide(3, 7) = 14
            # 30: of several the first by WALLS
            takes(1, 4) = 1
            takes(0, 4) = 0
            hide(2, 0) = 1
            takes(1, 2) = 4
            hide(2, 0) = 11
            hide(0, 0) = -1
            """);
        Script.run("""
            # 30: no WALL
            tell n7111111; = 1
            hide(0, 7) = -9
            hide(7, 0) = -3
            """);
    }

    private static void two() throws Exception {
        Script.run("""
            # 31: as much is not less: the first pair of 0, 1, 10, 11
            tell ww40;ww41;m07;m17; = 4
            two(0, 1, 0) = 0
            two(1, 0, 30) = 0
            needs(1, 0, 1) = 0
            two(0, 1, 0) = 1
            two(1, 0, 0) = 10
            needs(0, 0, 1) = 0
            two(0, 1, 0) = 11
            two(1, 0, 0) = 11
            needs(1, 0, 0) = 1
            two(0, 1, 0) = 10
            two(1, 0, 0) = 1
            two(0, 1, 6) = 1
            two(0, 1, 31) = -6
            two(0, 1, -1) = -4
            two(1, 1, 0) = -1
            # 31: the same OWNER, at home as well
            sells(1, 0) = 1
            two(0, 1, 0) = 1
            takes(0, 0) = 7
            two(0, 1, 0) = 0
            """);
    }

    private static void waysAndRain() throws Exception {
        Script.run("""
            # 32: by no going it is where it is, by one elsewhere
            tell wb43; = 1
            ways(0, 3, 0) = 1
            ways(0, 2, 0) = 0
            ways(0, 3, 1) = 0
            ways(0, 2, 1) = 1
            ways(0, 3, 2) = 7
            ways(0, 2, 2) = 6
            ways(0, 3, 20) = 9974033287201501
            ways(0, 0, 20) = 9974033287201500
            ways(0, 7, 21) = 4000000000000000006
            ways(0, 7, -1) = 4000000000000000004
            """);
        Script.run("""
            # 33: behind no HOURS as it is now, without rain
            tell ww40;n0555555;n1333333; = 3
            rain(0, 0, 2, 0) = 0
            rain(0, 0, 2, 1) = 1
            rain(1, 0, 20, 0) = 1
            rain(1, 0, 20, 1) = 1
            # 33: 1 in t, 2 more: just so that it LACKS 1 or nothing
            rain(0, 1, 2, 0) = 1
            rain(0, 1, 2, 1) = 2
            rain(0, 6, 20, 0) = 1
            rain(0, 6, 20, 1) = 20
            needs(0, 1, 3) = 5
            needs(1, 1, 0) = 3
            rain(0, 1, 20, 0) = 0
            rain(0, 1, 20, 1) = 1
            needs(0, 1, 4) = 3
            rain(0, 1, 20, 0) = 1
            rain(0, 1, 20, 1) = 20
            # 33: surely, in least terms
            needs(0, 1, 6) = 4
            rain(0, 1, 20, 0) = 1
            rain(0, 1, 20, 1) = 1
            rain(1, 6, 20, 0) = 1
            rain(1, 6, 20, 1) = 1
            """);
        Script.run("""
            # 34: 0 by 1 of none; in least terms
            mean(0) = 0
            mean(1) = 1
            tell n0200000;n7400000; = 2
            mean(0) = 3
            mean(1) = 1
            needs(3, 0, 1) = 0
            mean(0) = 7
            mean(1) = 3
            hours(1) = 0
            mean(0) = 0
            mean(1) = 1
            mean(2) = 4000000000000000002
            """);
    }

    private static void goneBy() throws Exception {
        Script.run("""
            # 35: at HOUR 0 none, though it is SEEN
            tell n0111111; = 1
            count(3) = 1
            wasSeen(0, 0, 0) = 0
            wasSeen(0, 0, 999) = 0
            longest(0) = 0
            # 35: from and to with them; HOURS yet to come none
            hours(3) = 1
            wasSeen(0, 0, 0) = 0
            wasSeen(0, 0, 1) = 1
            wasSeen(0, 1, 1) = 1
            wasSeen(0, 3, 3) = 1
            wasSeen(0, 3, 4) = 1
            wasSeen(0, 4, 4) = 0
            wasSeen(0, 4, 999) = 0
            wasSeen(0, 999, 999) = 0
            wasSeen(0, 3, 2) = -3
            wasSeen(0, 999, 0) = -3
            wasSeen(0, 1000, 0) = -6
            wasSeen(0, 0, 1000) = -6
            wasSeen(0, 1000, -1) = -4
            # 35: whatever comes later
            tell n0000000; = 1
            wasSeen(0, 0, 999) = 3
            # 36: HOURS on end, broken off once
            longest(0) = 3
            hours(1) = 0
            longest(0) = 3
            needs(0, 5, 1) = 0
            hours(1) = 1
            longest(0) = 3
            wasSeen(0, 0, 999) = 4
            tell n0111111; = 1
            hours(2) = 1
            longest(0) = 3
            hours(1) = 1
            longest(0) = 4
            # 37: both, one or both, just one
            together(0, 7, 0) = 0
            together(0, 7, 1) = 7
            together(7, 0, 2) = 7
            needs(7, 3, 1) = 0
            hours(1) = 2
            together(0, 7, 0) = 1
            together(0, 7, 1) = 8
            together(0, 7, 2) = 7
            together(7, 0, 0) = 1
            together(7, 0, 3) = -2
            together(7, 7, 0) = -1
            """);
        Script.run("""
            # 35, 44: ON from the IMAGE HOURS that came behind it are yet to come
            tell n0111111;h03; = 2
            image() = 3
            hours(60) = 1
            wasSeen(0, 0, 999) = 63
            on() = 3
            wasSeen(0, 0, 999) = 3
            wasSeen(0, 4, 63) = 0
            longest(0) = 3
            together(0, 1, 1) = 3
            tell n0000000;n1111111;h01; = 3
            wasSeen(0, 4, 63) = 0
            wasSeen(1, 4, 63) = 1
            together(0, 1, 1) = 4
            on() = 3
            house(0, 0) = 1
            wasSeen(1, 0, 999) = 0
            """);
    }

    private static void rows() throws Exception {
        Script.run("""
            # 39: numbers 0 .. 99, 16 at most
            tell ww40;n3111111; = 2
            row(0) = 1
            row(99) = 2
            row(100) = -6
            row(-1) = -4
            13 times row(3)
            row(98) = 16
            row(0) = -6
            row(99) = -6
            row(100) = -6
            row(-1) = -4
            count(6) = 16
            count(16) = 4
            # 38: the ROW stays
            whatIs(0, 0) = 0
            count(6) = 16
            # 41: how many it had, none then
            clear() = 16
            clear() = 0
            count(6) = 0
            # 38: of no ROW any KIND and any FIGURE
            whatIs(0, 0) = 63
            whatIs(0, 1) = 1023
            # 38: where it is now comes first
            row(0) = 1
            whatIs(0, 0) = 63
            whatIs(0, 1) = 1023
            row(3) = 2
            whatIs(0, 0) = 7
            whatIs(0, 1) = 1023
            13 times row(3)
            whatIs(0, 0) = 7
            row(2) = 16
            whatIs(0, 0) = 0
            whatIs(0, 1) = 0
            # 40: 0 HOURS come first; whatever it answers, the ROW has none then
            judge() = 0
            count(6) = 0
            judge() = -9
            count(6) = 0
            row(1) = 1
            judge() = -9
            count(6) = 0
            row(1) = 1
            row(1) = 2
            judge() = 1
            count(6) = 0
            """);
        Script.run("""
            # 40: all sixteen, the last one not so
            tell n3111111; = 1
            15 times row(1)
            row(2) = 16
            judge() = 15
            15 times row(1)
            row(1) = 16
            judge() = -9
            count(6) = 0
            row(99) = 1
            row(1) = 2
            judge() = 0
            """);
    }

    private static void rowsAndLettersStay() throws Exception {
        Script.run("""
            # 2, 39: the ROW and letters stay, whatever is done by hand
            tell ww40;n3111111; = 2
            letters b0
            row(1) = 1
            row(0) = 2
            row(0) = 3
            image() = 0
            takes(0, 0) = 0
            sells(0, 0) = 0
            needs(3, 0, 1) = 1
            turn(0, 0, 4) = 4
            bars(0, 1) = 1
            on() = 0
            count(6) = 3
            count(7) = 2
            judge() = -9
            # 3: the ROW stays as the letters become a STREET, and with a FAULT
            row(1) = 1
            row(0) = 2
            tell 2; = 1
            house(0, 5) = 4
            count(6) = 2
            tell b00; = -2000
            tell n3222222;ww0; = -1012
            tell ww40;n3222222;h01;m20; = -2018
            count(6) = 2
            whatIs(0, 0) = 0
            judge() = -9
            row(0) = 1
            row(3) = 2
            whatIs(0, 0) = 7
            tell b02; = 1
            whatIs(0, 0) = 7
            # 11: and as HOURS go by
            row(0) = 3
            hours(1) = 0
            count(6) = 3
            clear() = 3
            # 39: letters stay as the ROW comes and goes
            letters h0
            row(0) = 1
            clear() = 1
            row(0) = 1
            judge() = -9
            count(7) = 2
            tell 2; = 1
            count(1) = 3
            """);
    }

    private static void image() throws Exception {
        Script.run("""
            # 44: there is none
            on() = -3
            on() = -3
            count(13) = 2
            # 43: of a new object
            image() = 0
            tell ww40;n0999999;b01;h03; = 4
            row(5) = 1
            letter(104) = 1
            on() = 0
            count(0) = 0
            count(1) = 0
            wall(0, 0) = -1
            house(0, 0) = 0
            house(0, 5) = 0
            wasSeen(0, 0, 999) = 0
            # 44: the ROW, letters and REFUSALS stay as they are
            count(6) = 1
            count(7) = 1
            count(13) = 2
            count(11) = 1
            # 44: THE IMAGE stays
            hours(2) = 0
            on() = 0
            count(1) = 0
            # 43: another one in its place
            tell 02; = 1
            tell ww51;m04; = 2
            image() = 2
            takes(0, 7) = 4
            on() = 2
            wall(0, 3) = 4
            wall(0, 2) = 1
            count(4) = 1
            """);
        Script.run("""
            # 43: seven WALLS, all that they are; on from it WALLS may come and go anew
            tell ww00;ww01;ww02;ww03;ww04;ww05; = 6
            image() = 0
            tell wf96; = 1
            wall(6, 5) = 20
            on() = 0
            count(0) = 6
            wall(6, 0) = -1
            takes(6, 0) = -1
            tell wl07; = 1
            wall(6, 0) = 4
            wall(6, 1) = 0
            wall(6, 4) = 0
            on() = 0
            tell n7999999;ww06;h01; = 3
            wall(6, 4) = 1
            on() = 0
            count(5) = 0
            tell ww00; = 1
            wall(6, 4) = 0
            count(0) = 7
            """);
    }

    private static void refusals() throws Exception {
        Script.run("""
            # 45: each refusal is counted once, of longs, too; -9 and a FAULT are none
            wall(0, 0) = -1
            house(8, 9) = -1
            ways(0, 0, 0) = 4000000000000000001
            rain(8, 0, 2, 0) = 4000000000000000001
            count(11) = 4
            best(5) = -2
            mean(2) = 4000000000000000002
            rain(0, 0, 2, 2) = 4000000000000000002
            count(12) = 3
            on() = -3
            each(0) = -3
            hide(0, 1) = -3
            wasSeen(0, 1, 0) = -3
            count(13) = 4
            hours(0) = -4
            rain(0, -1, 2, 0) = 4000000000000000004
            lots(0, 0, 0) = -4
            row(-1) = -4
            letter(-1) = -4
            count(14) = 5
            hours(61) = -6
            rain(0, 0, 21, 0) = 4000000000000000006
            lots(21, 0, 0) = -6
            row(100) = -6
            letter(256) = -6
            needs(0, 0, 10) = -6
            count(16) = 6
            count(15) = 0
            best(0) = -9
            lend(0) = -9
            asked() = -9
            judge() = -9
            shares(0, 1) = 0
            count(8) = -9
            count(10) = -9
            count(17) = -9
            street() = -1000
            tell b00; = -2000
            count(11) = 4
            count(12) = 3
            count(13) = 4
            count(14) = 5
            count(15) = 0
            count(16) = 6
            """);
    }
}
