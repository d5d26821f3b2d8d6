/** Section 3 and promises 16 to 33, sentence by sentence: bounds of what is tried, NONE and -2, like ones, what is kept at most. */
public final class TriedTest extends Due {
    static final int BILLION = 1000000000;

    public static void main(String[] args) {
        highestFrom10To70();
        highestNone();
        highestNow();
        slackFrom0To99();
        slackOfWhatWasPulled();
        farTo99();
        farFromNow();
        stopsFewest();
        stopsAsLateAsCanBe();
        stopsNoneOrCannotBe();
        stopsOfMilesLeft();
        stopsAsItIsNow();
        stopsByWeightNow();
        soonestLeastOfLikeOnes();
        soonestAtEachPace();
        soonestWeighsStops();
        soonestByNone();
        whereGreatestAndFirst();
        whereAnewAsTold();
        whereByNone();
        handHigherBy();
        handNone();
        vanIsMore();
        knotsCutEach();
        seenSixAtMost();
        wasAllThatFits();
        wasByEachWay();
        wasByTheWayNow();
        wasNone();
        tryPartsBest();
        tryNone();
        bookTwentyAtMost();
        judgeTheFirst();
        tearBoth();
        lostIsNoHindrance();
        seedGoesRound();
        imagesKeepSectionTwoAndTheSeed();
        imagesLeaveAllElse();
        imagesAreTwo();
        report("TriedTest");
    }

    // ---- HIGHEST

    static void highestFrom10To70() {
        bounds("16: GUST", v -> on(SMALL).highest(v), 0, 30, OUTSIDE);
        due("16: OUTSIDE ahead of NOT", new RoofMattress().highest(31), OUTSIDE);
        due("16: NOT: no TRIP", new RoofMattress().highest(30), NOT);
        // LIFT is v * v / 100: at 70 32 and 17, at 71 33 and 17, at 69 31 and 16
        due("16: 70 and no more", on("l34 4 0;c0 15 0;").highest(0), 70);
        due("8: 71 would not HOLD", on("l34 4 0;c0 15 0;").lift(71, 0, 4), 0);
        due("16: 69", on("l34 4 0;c0 14 0;").highest(0), 69);
        due("16: 70 at most", on("l99 1 0;").highest(0), 70);
        due("8: though 71 would HOLD", on("l99 1 0;").lift(71, 0, 4), 1);
        // 10 in 0: 8 * 100 / 400 = 2: 1 and 1 against 1 and 1
        due("16: 10 at least", on("l2 8 0;").highest(2), 10);
        due("8: 11 would not HOLD", on("l2 8 0;").lift(11, 2, 4), 0);
    }

    static void highestNone() {
        due("16: NONE", on("l2 8 0;").highest(3), NONE);
        // 9 in 0: 8 * 81 / 400 = 1: 0 and 1 against 0 and 1
        due("16: 9 is none", on("l1 8 0;").highest(0), NONE);
        due("8: though 9 would HOLD", on("l1 8 0;").lift(9, 0, 4), 1);
        due("16: NONE by the FRONT", on("l1 40 0;c2 99 0;").highest(0), NONE);
        due("16: NONE by the BACK", on("l1 40 0;c0 99 0;").highest(0), NONE);
    }

    static void highestNow() {
        RoofMattress x = on(SMALL);
        due("16: at first", x.highest(0), 62);
        x.drive(1, 20);
        // 23 and 9 bear 27: at 52
        due("16: behind a MILE", x.highest(0), 52);
        x.stop();
        due("16: PULLED", x.highest(0), 62);
        x.runs(1, 0);
        // 33 and 5 bear 15: at 39
        due("16: run otherwise", x.highest(0), 39);
        x.rain(90);
        due("16: in RAIN", x.highest(0), 70);
        due("16: LOST, too", lostOne().highest(0), 39);
    }

    // ---- SLACK, FAR

    static void slackFrom0To99() {
        RoofMattress x = on("l1 1 0;c0 99 0;c0 99 1;c0 99 9;c0 0 9;");
        bounds("17: n", v -> x.slack(0, v), 0, 99, OUTSIDE);
        bounds("17: CORD", v -> x.slack(v, 0), 0, 3, UNKNOWN);
        due("17: UNKNOWN ahead of OUTSIDE", x.slack(4, 100), UNKNOWN);
        due("17: no TRIP, no CORD", new RoofMattress().slack(0, 0), UNKNOWN);
        due("17: gives nothing", x.slack(0, 99), 99);
        due("17: as it is now", x.slack(1, 0), 99);
        due("17: 3 MILES", x.slack(1, 3), 93);
        due("17: 4 MILES", x.slack(1, 4), 91);
        due("17: 5 MILES", x.slack(1, 5), 90);
        due("17: 94 MILES", x.slack(1, 94), 1);
        due("17: 95 MILES", x.slack(1, 95), 0);
        due("17: 0 at least", x.slack(1, 96), 0);
        due("17: 6 MILES", x.slack(2, 6), 9);
        due("17: 7 MILES", x.slack(2, 7), 0);
        due("17: 0 at least", x.slack(2, 99), 0);
        due("17: of 0", x.slack(3, 1), 0);
    }

    static void slackOfWhatWasPulled() {
        RoofMattress x = on("l99 1 0;c0 99 1;c0 99 1;r20 70 0;");
        x.drive(3, 70);
        due("17: one more of the first 4", x.slack(0, 1), 91);
        due("17: then once", x.slack(0, 2), 90);
        x.drive(1, 70);
        due("17: behind the first 4 once", x.slack(0, 1), 90);
        x.runs(1, 0);
        due("17: PULLED, twice again", x.slack(1, 5), 90);
        due("17: the other goes on", x.slack(0, 5), 86);
        due("17: beyond MILES left, too", x.slack(0, 91), 0);
        due("17: LOST, too", lostOne().slack(0, 1), 14);
    }

    static void farTo99() {
        bounds("18: PACE", v -> on(SMALL).far(v, 0), 10, 70, OUTSIDE);
        bounds("18: GUST", v -> on(SMALL).far(10, v), 0, 30, OUTSIDE);
        due("18: OUTSIDE ahead of NOT", new RoofMattress().far(9, 0), OUTSIDE);
        due("18: OUTSIDE ahead of NOT", new RoofMattress().far(10, 31), OUTSIDE);
        due("18: NOT: no TRIP", new RoofMattress().far(10, 30), NOT);
        // the FRONT has 95 less MILES from the fourth on, 0 at least: 2 HOLD for 94 MILES, 1 for 95, 0 for ever
        RoofMattress x = on("l1 4 0;c0 99 1;c2 9 0;");
        due("18: 94", x.far(18, 0), 94);
        due("18: 95, the most below 99: no CORD takes longer to be slack", x.far(15, 0), 95);
        due("18: for ever is 99", x.far(14, 0), 99);
        due("18: for ever is 99", x.far(10, 0), 99);
        due("18: none", on(SMALL).far(63, 0), 0);
        due("18: one", on(SMALL).far(62, 0), 1);
    }

    static void farFromNow() {
        RoofMattress x = on(SMALL);
        due("18: BACK 13, 9, then 5", x.far(40, 5), 2);
        x.drive(1, 20);
        due("18: from now on", x.far(40, 5), 1);
        x.drive(1, 20);
        due("18: from now on", x.far(40, 5), 0);
        x.stop();
        due("18: PULLED", x.far(40, 5), 2);
        due("18: ROADS' PACE is nothing to it", on("l10 4 0;r1 10 30;").far(39, 0), 0);
        due("18: nor their GUST, nor their end", on("l10 4 0;r1 10 30;").far(10, 0), 99);
        due("18: LOST, too", lostOne().far(10, 0), 99);
    }

    // ---- STOPS

    static void stops(String what, RoofMattress x, int pace, int count, int first) {
        due("19: how many, " + what, x.stops(pace, 0), count);
        due("19: ahead of which MILE, " + what, x.stops(pace, 1), first);
    }

    static void stopsFewest() {
        RoofMattress x = on(SMALL);
        bounds("19: PACE", v -> x.stops(v, 0), 10, 70, OUTSIDE);
        due("19: what 0", x.stops(10, 0), 0);
        due("19: what 1", x.stops(10, 1), NONE);
        for (int v : new int[] {-1, 2, LEAST, MOST}) due("19: what " + v, x.stops(10, v), OUTSIDE);
        due("19: OUTSIDE ahead of NOT", new RoofMattress().stops(71, 0), OUTSIDE);
        due("19: OUTSIDE ahead of NOT", lostOne().stops(10, 2), OUTSIDE);
        due("19: NOT: no TRIP", new RoofMattress().stops(70, 1), NOT);
        due("19: NOT: LOST", lostOne().stops(70, 1), NOT);
        // BACK 13, 9, 5: 7 on each MILE of ROAD 1 needs it PULLED two MILES ago at most
        stops("SMALL at 70", x, 70, 2, 2);
        stops("SMALL at 40", x, 40, 2, 2);
        stops("SMALL at 34", x, 34, 0, NONE);
        // a STOP ahead of every MILE but the first
        stops("each MILE", on("l10 4 7;c0 20 1;c2 8 2;r4 62 0;"), 62, 3, 1);
        // the most that there can be
        stops("120 MILES", on("l2 4 0;c0 26 9;c2 20 9;r20 62 0;r20 62 0;r20 62 0;r20 62 0;r20 62 0;r20 62 0;"), 62, 119, 1);
    }

    static void stopsAsLateAsCanBe() {
        // 13 and 7 on ROAD 1 only; ROAD 0 would let one STOP ahead of MILES 0, 1, 2 or 3: 3 is latest
        RoofMattress x = on("l10 4 7;c0 20 1;c2 8 2;r3 20 0;r1 40 5;");
        stops("one, as late as can be", x, 70, 1, 3);
        // FRONT 25, 23, 21, 19, 17, 16, 15, BACK enough: 18 HOLD for 4 MILES since it was PULLED, 16 for 6
        RoofMattress y = on("l10 4 0;c0 20 1;c2 90 0;r4 53 0;r3 50 0;");
        stops("18 at 53, 16 at 50", y, 70, 1, 4 + 2);
        stops("16 at 50 on all", y, 50, 1, 6);
        stops("14 at 47", y, 47, 0, NONE);
    }

    static void stopsNoneOrCannotBe() {
        stops("no MILES at all", on("l10 4 0;"), 70, 0, NONE);
        // at 63 it does not HOLD when just PULLED
        RoofMattress x = on("l10 4 7;c0 20 1;c2 8 2;r2 20 0;r1 63 0;");
        stops("it cannot be", x, 70, -2, -2);
        stops("it cannot be", x, 63, -2, -2);
        stops("it can", x, 62, 1, 2);
        stops("each ROAD at its own", on("l10 4 7;c0 20 1;c2 8 2;r2 20 0;r1 62 0;"), 70, 1, 2);
        stops("not at the first MILE", on("l10 4 0;r1 70 0;"), 70, -2, -2);
        stops("in a GUST", on("l10 4 7;c0 20 1;c2 8 2;r1 32 30;"), 70, 0, NONE);
        stops("in a GUST", on("l10 4 7;c0 20 1;c2 8 2;r1 33 30;"), 70, -2, -2);
    }

    static void stopsOfMilesLeft() {
        RoofMattress x = on(SMALL);
        x.drive(1, 20);
        stops("from now", x, 70, 2, 1);
        x.drive(1, 20);
        stops("ahead of MILE 0", x, 70, 2, 0);
        x.stop();
        stops("behind a STOP", x, 70, 1, 2);
        x.drive(2, 40);
        stops("ahead of MILE 0", x, 70, 1, 0);
        x.drive(1, 10);
        stops("none left", x, 70, 0, NONE);
        RoofMattress y = on("l10 4 7;c0 20 1;c2 8 2;r1 63 0;r1 10 0;");
        y.drive(1, 10);
        stops("what is behind one does not count", y, 70, 0, NONE);
    }

    static void stopsAsItIsNow() {
        // over the FRONT the BACK has 5: 7 on ROAD 1 is too much, with RAIN it is not
        RoofMattress x = on(SMALL);
        x.runs(1, 0);
        stops("as CORDS run now", x, 70, -2, -2);
        x.rain(4);
        stops("by WEIGHT now", x, 70, 0, NONE);
        // behind 2 MILES 16 and 4: a STOP is needed where none would be when just PULLED
        RoofMattress y = on("l10 4 7;c0 20 1;c2 8 2;r2 20 0;r2 40 5;");
        y.drive(2, 20);
        stops("as TIGHT as now", y, 70, 1, 0);
        y.stop();
        stops("when just PULLED", y, 70, 0, NONE);
    }

    /** RAIN stays in it behind a STOP: 26 and 13 at 63 against 25 and 13 as told, 26 and 14 as it is. */
    static void stopsByWeightNow() {
        RoofMattress x = on("l10 4 7;c0 20 1;c2 8 2;r2 20 0;r1 63 0;");
        stops("as told", x, 63, -2, -2);
        x.rain(2);
        stops("in RAIN", x, 63, 1, 2);
        stops("in RAIN", x, 70, 1, 2);
        // at 43 no STOP: 360 and 83; at 63 one: 360 and 57 and 7
        soonest("in RAIN", x, 63, 424);
        due("9: and so it is", x.drive(2, 20), 2);
        due("10: a STOP", x.stop(), 367);
        due("9: and so it is", x.drive(1, 63), 1);
        due("5: SECONDS", x.told(9), 424);
    }

    // ---- SOONEST

    static void soonest(String what, RoofMattress x, int pace, int seconds) {
        due("20: PACE, " + what, x.soonest(0), pace);
        due("20: SECONDS, " + what, x.soonest(1), seconds);
    }

    static void soonestLeastOfLikeOnes() {
        RoofMattress x = on(SMALL);
        for (int v : new int[] {-1, 2, LEAST, MOST}) due("20: what " + v, x.soonest(v), OUTSIDE);
        due("20: OUTSIDE ahead of NOT", new RoofMattress().soonest(2), OUTSIDE);
        due("20: OUTSIDE ahead of NOT", lostOne().soonest(-1), OUTSIDE);
        due("20: NOT: no TRIP", new RoofMattress().soonest(1), NOT);
        due("20: NOT: LOST", lostOne().soonest(1), NOT);
        soonest("70 is the most", on("l99 1 0;r1 70 0;"), 70, 51);
        soonest("52 from 68 on", on("l99 1 0;r1 69 0;"), 68, 52);
        soonest("the ROAD's own: no faster helps", on("l99 1 0;r1 10 0;"), 10, 360);
        soonest("no MILES at all", on("l99 1 9;"), 10, 0);
        soonest("two ROADS", on("l99 1 0;r1 20 0;r2 40 0;"), 40, 360);
        // FULL of MILES: 120 at 51
        soonest("120 MILES", on("l99 1 9;r20 70 0;r20 70 0;r20 70 0;r20 70 0;r20 70 0;r20 70 0;"), 70, 6120);
    }

    static void soonestAtEachPace() {
        for (int pace = 10; pace <= 70; pace++) {
            int seconds = 3600 / pace;
            int least = pace;
            while (least > 10 && 3600 / (least - 1) == seconds) least--;
            soonest("ROAD of " + pace, on("l99 1 0;r3 " + pace + " 0;"), least, 3 * seconds);
        }
    }

    static void soonestWeighsStops() {
        // at 40 two STOPS: 360 + 270 + 2 * S; at 34 none: 360 + 315
        soonest("7 each", on(SMALL), 40, 644);
        soonest("22 each: 674", on("l10 4 22;c0 20 1;c2 8 2;r2 20 0;r3 40 5;"), 40, 674);
        soonest("23 each: 676 is more", on("l10 4 23;c0 20 1;c2 8 2;r2 20 0;r3 40 5;"), 34, 675);
        RoofMattress x = on(SMALL);
        x.drive(2, 20);
        soonest("of MILES left", x, 40, 270 + 14);
        x.drive(1, 10);
        soonest("ahead of the last two", x, 40, 180 + 7);
        // S 30: at 40 and one STOP 180 + 30, at 34 and none 210: like ones, the lesser PACE
        RoofMattress y = on("l10 4 30;c0 20 1;c2 8 2;r2 20 0;r3 40 5;");
        y.drive(3, 10);
        soonest("like ones by a STOP", y, 34, 210);
        // 5 and 5 bear 8, at 29: no STOP helps
        soonest("as fast as it HOLDS", on("l10 4 0;r1 70 0;"), 29, 124);
    }

    static void soonestByNone() {
        soonest("by none", on("l1 40 0;r1 10 0;"), NONE, NONE);
        soonest("by none on the last ROAD", on("l1 4 0;r20 10 0;r1 10 30;"), NONE, NONE);
        RoofMattress x = on("l10 4 0;r1 10 30;r1 10 0;");
        soonest("by none", x, NONE, NONE);
        x.rain(99);
        soonest("in RAIN", x, 10, 720);
    }

    // ---- WHERE, HAND

    static void whereGreatestAndFirst() {
        bounds("21: GUST", v -> on(SMALL).where(v, NONE), 0, 30, OUTSIDE);
        bounds("21: GUST, CORD 0", v -> on(SMALL).where(v, 0), 0, 30, OUTSIDE);
        for (int c : new int[] {2, 4, -2, LEAST, MOST}) due("21: CORD " + c, on(SMALL).where(0, c), UNKNOWN);
        due("21: UNKNOWN ahead of OUTSIDE", on(SMALL).where(31, 2), UNKNOWN);
        due("21: UNKNOWN ahead of NOT", new RoofMattress().where(0, 0), UNKNOWN);
        due("21: OUTSIDE ahead of NOT", new RoofMattress().where(31, NONE), OUTSIDE);
        due("21: NOT: no TRIP", new RoofMattress().where(0, NONE), NOT);
        ways("25 and 13", on(SMALL), 0, 62, 0, 2);
        ways("in 30", on(SMALL), 30, 32, 0, 2);
        ways("all like", on("l99 1 0;c3 9 0;c2 9 0;c1 9 0;c3 0 0;"), 0, 70, 0, 0, 0, 0);
        // 16 and 6 bear 18; ways 0, 1 come ahead of 1, 0
        ways("CORD by CORD the lesser way", on("l2 8 0;c1 10 0;c1 10 0;"), 0, 30, 0, 1);
        // over the middle and along are like ones: 16 and 16 bear 25, at 36
        ways("1 ahead of 3", on("l2 8 0;c3 30 0;"), 0, 36, 1);
        ways("8 over the BACK, 20 over the FRONT", on("l10 4 7;c0 8 2;c2 20 1;"), 0, 62, 2, 0);
        ways("the second of three", on("l10 4 7;c3 0 0;c0 8 2;c2 20 1;"), 0, 62, 0, 2, 0);
        ways("the third of four", on("l10 4 7;c3 0 0;c2 20 1;c0 8 2;c3 0 0;"), 0, 62, 0, 0, 2, 0);
        ways("the first of four", on("l10 4 7;c3 8 0;c3 0 0;c3 0 0;c3 20 0;"), 0, 62, 2, 0, 0, 0);
        ways("no CORDS", on("l99 1 0;"), 0, 70);
        ways("a CORD of 0", on("l2 8 0;c2 0 0;"), 0, 12, 0);
    }

    static void ways(String what, RoofMattress x, int gust, int highest, int... ways) {
        due("21: HIGHEST, " + what, x.where(gust, NONE), highest);
        for (int c = 0; c < ways.length; c++) due("21: way of " + c + ", " + what, x.where(gust, c), ways[c]);
    }

    static void whereAnewAsTold() {
        RoofMattress x = on(SMALL);
        x.drive(2, 20);
        x.runs(0, 2);
        ways("TIGHT as told, not as now", x, 0, 62, 0, 2);
        due("21: nothing changes", x.cord(0, 0), 2);
        x.rain(1);
        // 5 and 20, 6 and 8 bear 38 still
        ways("WEIGHT now", x, 0, 62, 0, 2);
        x.rain(19);
        // at 70 32 and 17: both over the FRONT leave 15 at the BACK, one over the middle 19
        ways("WEIGHT now", x, 0, 70, 0, 1);
        ways("LOST, too", lostOne(), 0, 62, 0, 2);
    }

    static void whereByNone() {
        // 10 at a PACE of 10: 6 and 4 against 0 and 1
        ways("by none", on("l1 40 0;c2 9 0;"), 0, -1);
        ways("by none without CORDS", on("l1 40 0;"), 30, -1);
        ways("by none the first ways", on("l1 40 0;c2 0 0;c3 9 0;"), 30, -1, 0, 0);
        // 6 and 4 again: over the middle it has 6 and 6, over the FRONT 11 and 1, over the BACK 1 and 11
        ways("just by one way", on("l2 40 0;c2 10 0;"), 0, 10, 1);
    }

    static void handHigherBy() {
        bounds("22: h", v -> on(SMALL).hand(v, 0), 0, 99, OUTSIDE);
        bounds("22: GUST", v -> on(SMALL).hand(0, v), 0, 30, OUTSIDE);
        due("22: OUTSIDE ahead of NOT", new RoofMattress().hand(100, 0), OUTSIDE);
        due("22: OUTSIDE ahead of NOT", new RoofMattress().hand(0, 31), OUTSIDE);
        due("22: NOT: no TRIP", new RoofMattress().hand(99, 30), NOT);
        due("22: of 0 pounds", on(SMALL).hand(0, 0), 0);
        // 26 and 13 bear 39: at 63; the BACK bears no more
        due("22: one pound", on(SMALL).hand(1, 0), 1);
        due("22: 99 pounds: the BACK is as before", on(SMALL).hand(99, 0), 1);
        due("22: 70 at most", on("l99 1 0;").hand(99, 0), 0);
        // 5 at the FRONT HOLD at 29, 104 at 70
        due("22: at the FRONT alone", on("l10 4 0;c2 99 0;").hand(99, 0), 70 - 29);
    }

    static void handNone() {
        // 10 in 0: 1 and 1 against 0 and 1
        due("22: none without it: taken as 9", on("l1 8 0;").hand(1, 0), 12 - 9);
        due("22: NONE without a pound", on("l1 8 0;").hand(0, 0), NONE);
        // 8 * 40 * 40 / 400 = 32: 11 at the BACK against 1
        due("22: NONE with it either", on("l1 8 0;").hand(99, 30), NONE);
        // 10 in 30: 5 * 40 * 40 / 400 = 20: 13 and 7 against 7 and 7; 11 in 30: 21: 14 and 7
        due("22: 10 with it: 1 higher than 9", on("l14 5 0;").hand(6, 30), 1);
        due("22: one pound less: NONE", on("l14 5 0;").hand(5, 30), NONE);
    }

    // ---- VAN, KNOTS

    static void vanIsMore() {
        RoofMattress x = new RoofMattress();
        bounds("23: x", v -> x.van(v, 0, 0), 0, 999, OUTSIDE);
        bounds("23: q", v -> x.van(0, v, 0), 0, 100, OUTSIDE);
        bounds("23: y", v -> x.van(0, 0, v), 0, 9999, OUTSIDE);
        due("23: 100 of a hundred is all", x.van(998, 100, 999), 1);
        due("23: as much is not more", x.van(999, 100, 999), 0);
        due("23: one more", x.van(999, 100, 1000), 1);
        due("23: 99 / 100 is cut to 0", x.van(0, 1, 99), 0);
        due("23: 100 / 100 is more than 0", x.van(0, 1, 100), 1);
        due("23: 199 / 100 is no more than 1", x.van(1, 1, 199), 0);
        due("23: 0 of a hundred", x.van(0, 0, 9999), 0);
        due("23: most", x.van(999, 100, 9999), 1);
        due("23: with a TRIP, too", on(SMALL).van(0, 1, 100), 1);
    }

    static void knotsCutEach() {
        RoofMattress one = on("l1 1 0;c0 0 0;");
        bounds("24: n", v -> one.knots(v, 50), 0, 60, OUTSIDE);
        bounds("24: q", v -> one.knots(1, v), 0, 100, OUTSIDE);
        due("24: 0 MILES", one.knots(0, 100), BILLION);
        due("24: 0 of a hundred", one.knots(60, 0), BILLION);
        due("24: 100 of a hundred", one.knots(1, 100), 0);
        due("24: 50 of a hundred", one.knots(1, 50), 500000000);
        due("24: 29 times the half", one.knots(29, 50), 1);
        due("24: 30 times the half", one.knots(30, 50), 0);
        due("24: 1 of a hundred", one.knots(60, 1), 547156620);
        due("24: 99 of a hundred", one.knots(4, 99), 10);
        due("24: 99 of a hundred", one.knots(5, 99), 0);
        RoofMattress four = on("l1 1 0;c0 0 0;c0 0 0;c0 0 0;c0 0 0;");
        due("24: each CORD each MILE", four.knots(60, 1), 89628574);
        due("24: each CORD", four.knots(1, 99), 10);
        due("24: no CORDS", on("l1 1 0;").knots(60, 100), BILLION);
        due("24: no TRIP", new RoofMattress().knots(60, 100), BILLION);
        due("24: no TRIP, OUTSIDE", new RoofMattress().knots(61, 100), OUTSIDE);
    }

    // ---- SEEN, WAS, TRY

    static void seenSixAtMost() {
        bounds("25: CORD", v -> on(SMALL).see(v, 10, 0, true), 0, 1, UNKNOWN);
        bounds("25: PACE", v -> on(SMALL).see(0, v, 0, true), 10, 70, OUTSIDE);
        bounds("25: GUST", v -> on(SMALL).see(0, 10, v, false), 0, 30, OUTSIDE);
        due("25: no TRIP, no CORD", new RoofMattress().see(0, 10, 0, true), UNKNOWN);
        RoofMattress x = on(SMALL);
        for (int i = 1; i <= 6; i++) due("25: how much, of all CORDS", x.see(i % 2, 10, 0, true), i);
        due("25: FULL", x.see(0, 10, 0, true), FULL);
        due("25: FULL for the other, too", x.see(1, 10, 0, false), FULL);
        due("25: UNKNOWN ahead of FULL", x.see(2, 10, 0, true), UNKNOWN);
        due("25: OUTSIDE ahead of FULL", x.see(0, 71, 0, true), OUTSIDE);
        due("25: UNKNOWN ahead of OUTSIDE", x.see(2, 71, 31, true), UNKNOWN);
        due("5: 6 still", x.told(12), 6);
        x.tear();
        due("25: room again", x.see(0, 10, 0, true), 1);
        due("25: LOST, too", lostOne().see(0, 10, 0, true), 1);
    }

    static void was(String what, RoofMattress x, int c, int many, int least, int most) {
        due("26: how many, " + what, x.was(c, 0), many);
        due("26: the least, " + what, x.was(c, 1), least);
        due("26: the most, " + what, x.was(c, 2), most);
    }

    static void wasAllThatFits() {
        bounds("26: CORD", v -> on(SMALL).was(v, 0), 0, 1, UNKNOWN);
        bounds("26: what", v -> on(SMALL).was(0, v), 0, 2, OUTSIDE);
        due("26: UNKNOWN ahead of OUTSIDE", on(SMALL).was(2, 3), UNKNOWN);
        due("26: no TRIP, no CORD", new RoofMattress().was(0, 0), UNKNOWN);
        RoofMattress x = on(SMALL);
        was("nothing SEEN", x, 0, 100, 0, 99);
        // 62: 25 and 13 against 5 and the CORD, 13
        x.see(0, 62, 0, true);
        was("HELD", x, 0, 80, 20, 99);
        x.see(0, 61, 0, true);
        was("HELD at less tells no more", x, 0, 80, 20, 99);
        was("nothing of the other", x, 1, 100, 0, 99);
        RoofMattress y = on(SMALL);
        // 62 not: below 20; 60 not: 24: below 19
        y.see(0, 62, 0, false);
        was("did not HOLD", y, 0, 20, 0, 19);
        y.see(0, 60, 0, false);
        was("did not HOLD at less", y, 0, 19, 0, 18);
        y.see(0, 59, 0, true);
        // 34: 22 and 12: 17 at least
        was("between", y, 0, 2, 17, 18);
        y.see(0, 59, 0, true);
        was("the same twice", y, 0, 2, 17, 18);
        // a GUST counts as PACE does
        RoofMattress z = on(SMALL);
        z.see(0, 32, 30, true);
        was("in a GUST", z, 0, 80, 20, 99);
        RoofMattress w = on("l2 40 0;c0 1 0;c2 99 0;");
        // 40 * 38 * 38 / 400 = 144: 96 and 48; 39: 152: 101 and 51
        w.see(0, 38, 0, true);
        was("near the most", w, 0, 5, 95, 99);
        w.see(0, 39, 0, true);
        was("beyond the most", w, 0, 0, NONE, NONE);
    }

    static void wasByEachWay() {
        for (int way : new int[] {1, 3}) {
            // 50: 16 and 9 against 5 with the half and 5 with the rest; 51: 17 and 9
            RoofMattress x = on("l10 4 0;c" + way + " 0 0;");
            x.see(0, 50, 0, true);
            was("the FRONT by halves, way " + way, x, 0, 78, 22, 99);
            x.see(0, 51, 0, false);
            was("the FRONT by halves, way " + way, x, 0, 2, 22, 23);
            due("27: 22 and 23 have the same half", x.tries(0, 0), NONE);
            // 30: 6 and 3 against 9 with the half and 1 with the rest; 32: 6 and 4
            RoofMattress y = on("l1 4 0;c" + way + " 0 0;c0 9 0;");
            y.see(0, 30, 0, true);
            was("the BACK by the rest, way " + way, y, 0, 97, 3, 99);
            y.see(0, 32, 0, false);
            was("the BACK by the rest, way " + way, y, 0, 2, 3, 4);
        }
        // over the BACK: 60: 24 and 12 against 25 and 5 with the CORD; 62: 25 and 13; 63: 26 at the FRONT
        RoofMattress z = on(SMALL);
        z.see(1, 60, 0, true);
        was("over the BACK", z, 1, 93, 7, 99);
        z.see(1, 62, 0, false);
        was("one is left", z, 1, 1, 7, 7);
        due("27: one is not parted", z.tries(1, 0), NONE);
        z.tear();
        z.see(1, 63, 0, false);
        was("over the BACK nothing for the FRONT", z, 1, 100, 0, 99);
        z.see(1, 63, 0, true);
        was("over the BACK nothing for the FRONT", z, 1, 0, NONE, NONE);
        // all others as now, the CORD's own way as now; how TIGHT it is now is nothing to it
        RoofMattress w = on(SMALL);
        w.see(1, 60, 0, true);
        w.drive(1, 20);
        // 23 at the FRONT now: 24 is too much
        was("all others as now", w, 1, 0, NONE, NONE);
        w.runs(0, 0);
        was("CORD 0 PULLED", w, 1, 93, 7, 99);
        w.rain(2);
        was("WEIGHT as now", w, 1, 94, 6, 99);
    }

    static void wasByTheWayNow() {
        RoofMattress x = on(SMALL);
        x.see(1, 60, 0, true);
        was("over the BACK as told", x, 1, 93, 7, 99);
        x.runs(1, 0);
        // 24 and 12 against 25 with the CORD, and 5
        was("over the FRONT now", x, 1, 0, NONE, NONE);
        x.runs(1, 1);
        was("over the middle now: the rest is 7 from 13 on", x, 1, 87, 13, 99);
        // 61: 37: 24 and 13: the rest is 8 from 15 on
        x.see(1, 61, 0, false);
        was("over the middle now", x, 1, 2, 13, 14);
        due("27: 13 and 14 have the same rest, and the FRONT has enough by both", x.tries(1, 0), NONE);
        x.undo(2);
        was("over the BACK again", x, 1, 1, 7, 7);
    }

    static void wasNone() {
        RoofMattress x = on(SMALL);
        x.see(0, 62, 0, true);
        x.see(0, 62, 0, false);
        was("HELD and did not", x, 0, 0, NONE, NONE);
        x.tear();
        was("torn", x, 0, 100, 0, 99);
        // 70 at the BACK: 17 against 13 whatever CORD 0 is
        x.see(0, 70, 0, true);
        was("by none", x, 0, 0, NONE, NONE);
        RoofMattress y = on(SMALL);
        y.see(0, 70, 0, false);
        was("it never would: all", y, 0, 100, 0, 99);
        RoofMattress z = on("l99 1 0;c0 1 0;");
        z.see(0, 10, 0, false);
        was("it always would: none", z, 0, 0, NONE, NONE);
        z.tear();
        z.see(0, 10, 0, true);
        was("it always would: all", z, 0, 100, 0, 99);
    }

    static void tryPartsBest() {
        bounds("27: GUST", v -> on(SMALL).tries(0, v), 0, 30, OUTSIDE);
        due("27: CORD", on(SMALL).tries(2, 0), UNKNOWN);
        due("27: CORD", on(SMALL).tries(-1, 0), UNKNOWN);
        due("27: UNKNOWN ahead of OUTSIDE", on(SMALL).tries(2, 31), UNKNOWN);
        due("27: no TRIP, no CORD", new RoofMattress().tries(0, 0), UNKNOWN);
        RoofMattress x = on(SMALL);
        // 59: 34: 22, 17 at least; 60: 36: 24, 18 at most; 35 would part them, and no PACE has it
        x.see(0, 59, 0, true);
        x.see(0, 60, 0, false);
        due("27: none parts two", x.tries(0, 0), NONE);
        due("27: in a GUST the like", x.tries(0, 30), NONE);
        RoofMattress y = on(SMALL);
        y.see(0, 57, 0, true);
        y.see(0, 60, 0, false);
        // 57: 32: 21, 16 at least; of 16 .. 18 at 58 (33: 22) two HOLD, at 59 (34: 22) as well: the least is 58
        due("27: of like ones the least", y.tries(0, 0), 58);
        due("27: in 30", y.tries(0, 30), 28);
        due("27: in 1", y.tries(0, 1), 57);
    }

    static void tryNone() {
        RoofMattress x = on(SMALL);
        x.see(0, 62, 0, true);
        x.see(0, 62, 0, false);
        due("27: none is left", x.tries(0, 0), NONE);
        due("27: all HOLD at each PACE", on("l99 1 0;c0 9 0;").tries(0, 0), NONE);
        due("27: none HOLDS at any", on("l1 40 0;c0 9 0;").tries(0, 30), NONE);
        // against 3 with the CORD, and 4: together 10: 6 and 4 (3 of 100 do not HOLD); 11: 8 and 4 (5); 12: 9 and 5 (all)
        due("27: 11 parts better than 10", on("l7 40 0;c0 9 0;").tries(0, 0), 11);
        due("27: the first PACE of all", on("l7 40 0;c0 9 0;").tries(0, 1), 10);
        due("27: none in more", on("l7 40 0;c0 9 0;").tries(0, 2), NONE);
        // against 31 with the CORD, and 17: together 70: 32 and 17 (1 of 100 does not); 72: 34 and 17 (3); 73: 35 and 18 (all)
        due("27: the last PACE of all", on("l34 4 0;c0 0 0;c0 14 0;").tries(0, 0), 70);
        due("27: the last PACE of all", on("l34 4 0;c0 0 0;c0 14 0;").tries(0, 2), 70);
        due("27: in a GUST one earlier", on("l34 4 0;c0 0 0;c0 14 0;").tries(0, 3), 69);
    }

    // ---- THE BOOK

    static void bookTwentyAtMost() {
        bounds("28: CORD", v -> on(SMALL).write(v, 0), 0, 1, UNKNOWN);
        bounds("28: TIGHT", v -> on(SMALL).write(0, v), 0, 99, OUTSIDE);
        due("28: no TRIP, no CORD", new RoofMattress().write(0, 0), UNKNOWN);
        RoofMattress x = on(SMALL);
        for (int i = 1; i <= 20; i++) due("28: how many, of all CORDS", x.write(i % 2, 5), i);
        due("28: FULL", x.write(0, 5), FULL);
        due("28: FULL for the other, too", x.write(1, 5), FULL);
        due("28: UNKNOWN ahead of FULL", x.write(2, 5), UNKNOWN);
        due("28: OUTSIDE ahead of FULL", x.write(0, 100), OUTSIDE);
        due("28: UNKNOWN ahead of OUTSIDE", x.write(2, 100), UNKNOWN);
        due("5: 20 still", x.told(13), 20);
        x.tear();
        due("28: room again", x.write(0, 5), 1);
    }

    static void judgeTheFirst() {
        RoofMattress x = on(SMALL);
        due("29: an empty BOOK", x.judge(), NONE);
        due("29: no TRIP", new RoofMattress().judge(), NONE);
        for (int i = 0; i < 19; i++) x.write(0, 20);
        due("29: none is WRONG", x.judge(), NONE);
        x.write(1, 9);
        due("29: the last of 20", x.judge(), 19);
        x.drive(1, 20);
        due("29: the first, now", x.judge(), 0);
        x.undo(1);
        due("29: the last again", x.judge(), 19);
        RoofMattress y = on(SMALL);
        y.write(0, 19);
        due("29: one less", y.judge(), 0);
        y.tear();
        y.write(0, 21);
        due("29: one more", y.judge(), 0);
        // the number of the entry, not that of its CORD
        RoofMattress z = on(SMALL);
        z.write(1, 8);
        z.write(1, 8);
        z.write(1, 7);
        z.write(0, 0);
        due("29: the third entry", z.judge(), 2);
        z.drive(1, 20);
        z.write(1, 4);
        due("29: as it is now", z.judge(), 0);
    }

    static void tearBoth() {
        due("30: no TRIP", new RoofMattress().tear(), 0);
        RoofMattress x = on(SMALL);
        due("30: nothing", x.tear(), 0);
        for (int i = 0; i < 6; i++) x.see(0, 62, 0, true);
        due("30: SEEN alone", x.tear(), 6);
        for (int i = 0; i < 20; i++) x.write(0, 1);
        due("30: BOOK alone", x.tear(), 20);
        for (int i = 0; i < 6; i++) x.see(0, 62, 0, true);
        for (int i = 0; i < 20; i++) x.write(0, 1);
        x.rain(1);
        due("30: both", x.tear(), 26);
        due("30: nothing any more", x.tear(), 0);
        told("30: all else stays", x, 11, 4, 7, 2, 2, 0, 0, 5, 0, 0, 0, 0, 0, 0, 1);
        was("nothing SEEN", x, 0, 100, 0, 99);
        due("29: no BOOK", x.judge(), NONE);
    }

    /** What names no NOT is answered when it is LOST, too: 5 and 16 at the FRONT, 5 and 0 at the BACK. */
    static void lostIsNoHindrance() {
        RoofMattress x = lostOne();
        due("25: see", x.see(0, 39, 0, true), 1);
        was("10 and 5 at 39", x, 0, 95, 5, 99);
        due("27: none parts them", x.tries(0, 0), NONE);
        was("nothing SEEN", x, 1, 100, 0, 99);
        // 56: 31: 20 and 11: 6 at the BACK; 55: 30: 20 and 10; 58: 33: 22 is too much at the FRONT
        due("27: tries", x.tries(1, 0), 56);
        due("28: write", x.write(0, 16), 1);
        due("29: judge", x.judge(), NONE);
        due("28: write", x.write(1, 8), 2);
        due("29: judge", x.judge(), 1);
        due("30: tear", x.tear(), 3);
        due("22: hand", x.hand(99, 0), 0);
        due("24: knots", x.knots(1, 50), 250000000);
        due("23: van", x.van(0, 1, 100), 1);
        due("31: seed", x.seed(6), 0);
        due("32: keep", x.keep(0), 1);
        due("33: goBack", x.goBack(0), 1);
        due("5: LOST still", x.told(11), 1);
    }

    // ---- THE SEED, IMAGES

    static void seedGoesRound() {
        bounds("31: v", v -> new RoofMattress().seed(v), 0, MOST, OUTSIDE);
        RoofMattress x = on("l99 1 0;r20 70 0;");
        due("31: 0 at first", x.seed(MOST), 0);
        due("31: the most", x.seed(MOST), MOST);
        due("31: OUTSIDE", x.seed(-1), OUTSIDE);
        x.drift(1, 10);
        due("3: left over by 2 to the 31", x.seed(0), 1043980748);
        x.drift(5, 10);
        due("3: five DRAWS from 0", x.seed(0), 229283573);
        x.drive(5, 10);
        x.stop();
        x.rain(1);
        due("3: no DRAW by drive(), stop(), rain()", x.seed(7), 0);
        tell(x, "l1 1 0;");
        due("3: THE SEED stays behind a text", x.seed(0), 7);
    }

    static void imagesKeepSectionTwoAndTheSeed() {
        RoofMattress x = lostOne();
        x.rain(7);
        x.seed(50);
        due("32: keep", x.keep(1), 1);
        due("32: nothing can be undone", x.told(14), 0);
        due("32: all else stays", x.told(6), 2);
        x.pick();
        x.runs(1, 1);
        x.drift(2, 10);
        x.rain(1);
        x.see(0, 50, 0, true);
        x.write(0, 1);
        x.feed('l');
        due("33: goBack", x.goBack(1), 1);
        told("33: all of section 2; SEEN, BOOK, TEXT as they are", x, 17, 4, 7, 2, 2, 1, 2, 3, 1, 360, 1, 1, 1, 1, 0);
        cord("33: CORDS", x, 0, 0, 20, 1, 16, 2);
        cord("33: CORDS", x, 1, 2, 8, 2, 0, 2);
        due("33: THE SEED", x.seed(3), 50);
        due("33: nothing can be undone", x.undo(1), NOT);
        x.pick();
        due("33: once more", x.goBack(1), 1);
        due("33: LOST", x.told(11), 1);
        due("33: THE SEED", x.seed(0), 50);
    }

    static void imagesLeaveAllElse() {
        RoofMattress x = on(SMALL);
        tell(x, "l1x");
        x.seed(50);
        x.see(0, 50, 0, true);
        x.write(0, 20);
        x.write(1, 8);
        feedAll(x, "l10 4");
        x.keep(0);
        told("32: TEXT, SEEN, BOOK stay", x, 10, 4, 7, 2, 2, 5, 0, 5, 0, 0, 0, 0, 1, 2, 0);
        due("32: fault() stays", x.fault(), 2);
        due("32: THE SEED stays", x.seed(51), 50);
        x.feed(' ');
        x.see(0, 50, 0, true);
        x.write(0, 20);
        x.goBack(0);
        told("33: TEXT, SEEN, BOOK stay as they are", x, 10, 4, 7, 2, 2, 6, 0, 5, 0, 0, 0, 0, 2, 3, 0);
        due("33: fault() stays", x.fault(), 2);
        due("33: THE SEED is that of the IMAGE", x.seed(0), 50);
        feedAll(x, "7;");
        due("33: and THE TEXT goes on", x.trip(), 0);
    }

    static void imagesAreTwo() {
        bounds("32: IMAGE", v -> on(SMALL).keep(v), 0, 1, UNKNOWN);
        bounds("33: IMAGE", TriedTest::keptAndBack, 0, 1, UNKNOWN);
        for (int i : new int[] {0, 1}) {
            due("33: NOT: it was not kept", on(SMALL).goBack(i), NOT);
            due("33: NOT: no TRIP, not kept", new RoofMattress().goBack(i), NOT);
            RoofMattress other = on(SMALL);
            other.keep(1 - i);
            due("33: NOT: the other was", other.goBack(i), NOT);
        }
        due("33: UNKNOWN ahead of NOT", new RoofMattress().goBack(2), UNKNOWN);
        RoofMattress x = on(SMALL);
        x.seed(6);
        x.keep(0);
        x.drive(1, 20);
        x.seed(7);
        x.keep(1);
        x.drive(1, 20);
        x.goBack(0);
        due("33: IMAGE 0", x.told(6), 0);
        due("33: THE SEED of IMAGE 0", x.seed(8), 6);
        x.goBack(1);
        due("33: IMAGE 1", x.told(6), 1);
        due("33: THE SEED of IMAGE 1", x.seed(8), 7);
        x.keep(0);
        x.drive(1, 20);
        x.goBack(0);
        due("32: kept anew", x.told(6), 1);
        // a text with a FAULT leaves them, another TRIP does not
        tell(x, "l0");
        due("33: still there", x.goBack(1), 1);
        tell(x, SMALL);
        due("33: gone", x.goBack(0), NOT);
        due("33: gone", x.goBack(1), NOT);
        RoofMattress y = new RoofMattress();
        y.seed(9);
        due("32: no TRIP is kept, too", y.keep(0), 1);
        y.seed(10);
        due("33: no TRIP", y.goBack(0), 1);
        due("33: THE SEED", y.seed(0), 9);
    }

    static int keptAndBack(int i) {
        RoofMattress x = on(SMALL);
        x.keep(0);
        x.keep(1);
        return x.goBack(i);
    }
}
