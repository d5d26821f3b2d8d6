/** Section 2 and promises 5 to 15, sentence by sentence: what is cut, what has an end, and what a deed leaves as it was. */
public final class DeedsTest extends Due {
    /** Nothing lifts it on 31 MILES, and each MILE takes 360 SECONDS at 10. */
    static final String LONG = "l99 1 5;c0 99 9;c3 1 9;r20 70 0;r11 70 0;";

    public static void main(String[] args) {
        liftIsCut();
        twoThirdsAreCut();
        halfOfWeightIsCut();
        halvesOfCordsAreCutEach();
        holdsIfNoMoreAtBoth();
        liftsOwnBounds();
        holdsAsLiftAndHoldSay();
        theRoadsPaceIfThatIsLess();
        secondsOfAMileAreCut();
        theGustOfThisRoad();
        asCordsAreAheadOfTheMile();
        lostStandsWhereOneIs();
        lostOnTheFirstMile();
        firstFourMilesTwice();
        zeroTightAtLeast();
        pulledByAStop();
        pulledByRuns();
        pulledByPick();
        rainTo999AtMost();
        harmsEachTime();
        driveBounds();
        asManyAsThereAre();
        stopAnywhere();
        runsBounds();
        pickOnlyWhatIsLost();
        driftIsAsDrive();
        driftDrawsAheadOfEachMile();
        undoneAreTheLatest();
        undoneHarms();
        undoneIsSectionTwoAlone();
        thirtyAreKeptAtMost();
        undoneAcrossTheWrap();
        undoneSinceTextOrImage();
        toldAtEveryEdge();
        cordAndRoadBounds();
        report("DeedsTest");
    }

    // ---- LIFT and HOLD

    static void liftAt(String text, int pace, int gust, int front, int back) {
        due("2: LIFT at the FRONT, " + text + pace + ", " + gust, on(text).lift(pace, gust, 0), front);
        due("2: LIFT at the BACK, " + text + pace + ", " + gust, on(text).lift(pace, gust, 1), back);
    }

    static void liftIsCut() {
        // 19 * 19 / 400 is below 1; 20 * 20 / 400 is 1, and two thirds of it are cut to 0
        liftAt("l1 1 0;", 19, 0, 0, 0);
        liftAt("l1 1 0;", 20, 0, 0, 1);
        liftAt("l1 1 0;", 28, 0, 0, 1);
        liftAt("l1 1 0;", 29, 0, 1, 1);
        // PACE and GUST together, then squared: 10 and 10 are as 20 and 0
        liftAt("l1 1 0;", 10, 10, 0, 1);
        liftAt("l1 1 0;", 0, 20, 0, 1);
        liftAt("l1 1 0;", 0, 0, 0, 0);
        // 3 * 29 * 29 / 400 = 2523 / 400 = 6: AREA times first, cut last
        liftAt("l1 3 0;", 29, 0, 4, 2);
        liftAt("l1 40 0;", 99, 30, 1109, 555);
    }

    static void twoThirdsAreCut() {
        // LIFT is v * v / 100: 3, 4, 5, 6
        liftAt("l1 4 0;", 18, 0, 2, 1);
        liftAt("l1 4 0;", 20, 0, 2, 2);
        liftAt("l1 4 0;", 23, 0, 3, 2);
        liftAt("l1 4 0;", 25, 0, 4, 2);
    }

    static void hold(String what, RoofMattress x, int front, int back) {
        due("2: HOLD at the FRONT, " + what, x.lift(10, 0, 2), front);
        due("2: HOLD at the BACK, " + what, x.lift(10, 0, 3), back);
    }

    static void halfOfWeightIsCut() {
        hold("1", on("l1 1 0;"), 0, 1);
        hold("2", on("l2 1 0;"), 1, 1);
        hold("98", on("l98 1 0;"), 49, 49);
        hold("99", on("l99 1 0;"), 49, 50);
    }

    static void halvesOfCordsAreCutEach() {
        for (int way = 0; way < 4; way++) {
            for (int tight : new int[] {0, 1, 2, 98, 99}) {
                int front = way == 0 ? tight : way == 2 ? 0 : tight / 2;
                hold("way " + way + ", " + tight, on("l2 1 0;c" + way + " " + tight + " 0;"), 1 + front, 1 + tight - front);
            }
        }
        // each by itself: two halves of 1 are nothing at the FRONT
        hold("1 and 1 over the middle", on("l2 1 0;c1 1 0;c1 1 0;"), 1, 3);
        hold("1 and 1 along", on("l2 1 0;c3 1 0;c1 1 0;"), 1, 3);
        // and cut by itself, not with WEIGHT: 1 / 2 and 1 / 2
        hold("1 with 1", on("l1 1 0;c1 1 0;"), 0, 2);
        hold("all four", on("l7 1 0;c0 11 0;c1 5 0;c2 13 0;c3 9 0;"), 3 + 11 + 2 + 4, 4 + 3 + 13 + 5);
        // how TIGHT they are now
        RoofMattress x = on(SMALL);
        x.drive(1, 10);
        hold("behind a MILE", x, 23, 9);
    }

    static void holdsIfNoMoreAtBoth() {
        // 62: 25 and 13 against 25 and 13; 63: 26 and 13
        due("2: as much at both", on(SMALL).lift(62, 0, 4), 1);
        due("2: one more at the FRONT", on(SMALL).lift(63, 0, 4), 0);
        // 5 at the BACK: 39: 10 and 5; 40: 10 and 6
        due("2: as much at the BACK", on("l10 4 0;c0 99 0;").lift(39, 0, 4), 1);
        due("2: one more at the BACK", on("l10 4 0;c0 99 0;").lift(40, 0, 4), 0);
        // 5 at the FRONT, much at the BACK: 28: 7: 4 and 3; 29: 8: 5 and 3; 30: 9: 6 and 3
        due("2: as much at the FRONT", on("l10 4 0;c2 99 0;").lift(29, 0, 4), 1);
        due("2: one more at the FRONT", on("l10 4 0;c2 99 0;").lift(30, 0, 4), 0);
    }

    static void liftsOwnBounds() {
        RoofMattress x = on(SMALL);
        bounds("8: PACE", v -> x.lift(v, 0, 0), 0, 99, OUTSIDE);
        bounds("8: GUST", v -> x.lift(0, v, 0), 0, 30, OUTSIDE);
        bounds("8: what", v -> x.lift(0, 0, v), 0, 4, OUTSIDE);
        due("8: OUTSIDE ahead of NOT", new RoofMattress().lift(100, 0, 0), OUTSIDE);
        due("8: NOT: no TRIP", new RoofMattress().lift(99, 30, 4), NOT);
        due("8: by a load alone", on("l10 4 0;").lift(10, 0, 4), 1);
    }

    /** Whether it HOLDS is told by the four numbers ahead of it, at every PACE and in every GUST. */
    static void holdsAsLiftAndHoldSay() {
        for (int gust = 0; gust <= 30; gust++) {
            for (int miles = 0; miles <= 2; miles++) {
                RoofMattress x = on("l10 4 7;c0 20 1;c2 8 2;c3 9 3;r3 10 0;");
                if (miles > 0) x.drive(miles, 10);
                int front = x.lift(0, 0, 2);
                int back = x.lift(0, 0, 3);
                for (int pace = 0; pace <= 99; pace++) {
                    boolean holds = x.lift(pace, gust, 0) <= front && x.lift(pace, gust, 1) <= back;
                    due("8: HOLDS at " + pace + " in " + gust + " behind " + miles, x.lift(pace, gust, 4), holds ? 1 : 0);
                }
            }
        }
    }

    // ---- a MILE

    static void theRoadsPaceIfThatIsLess() {
        for (int[] p : new int[][] {{70, 180}, {21, 180}, {20, 180}, {19, 189}, {10, 360}}) {
            RoofMattress x = on(SMALL);
            due("2: a MILE at " + p[0], x.drive(1, p[0]), 1);
            due("2: SECONDS at " + p[0], x.told(9), p[1]);
        }
        // at 63 it would be LOST, at 62 it is not: the ROAD's PACE is what counts
        due("2: the ROAD's", on("l10 4 7;c0 20 1;c2 8 2;r1 62 0;").drive(1, 70), 1);
        due("2: one's own", on("l10 4 7;c0 20 1;c2 8 2;r1 70 0;").drive(1, 62), 1);
        due("2: too fast", on("l10 4 7;c0 20 1;c2 8 2;r1 70 0;").drive(1, 63), 0);
        due("2: too fast by the ROAD's", on("l10 4 7;c0 20 1;c2 8 2;r1 63 0;").drive(1, 70), 0);
    }

    static void secondsOfAMileAreCut() {
        for (int pace = 10; pace <= 70; pace++) {
            RoofMattress x = on("l99 1 0;r2 70 0;");
            x.drive(2, pace);
            due("2: 3600 / " + pace + ", each cut", x.told(9), 2 * (3600 / pace));
        }
    }

    static void theGustOfThisRoad() {
        // in 0 at 40: 10 and 6; in 5 at 40: 20: 13 and 7, one more than HOLD 13 and 6
        RoofMattress x = on("l12 4 0;c0 7 0;r1 40 5;r1 40 0;");
        due("2: in the GUST of ROAD 0", x.drive(2, 40), 0);
        RoofMattress y = on("l12 4 0;c0 7 0;r1 40 0;r1 40 5;");
        due("2: in the GUST of ROAD 1", y.drive(2, 40), 1);
        due("5: LOST on ROAD 1", y.told(8), 1);
    }

    static void asCordsAreAheadOfTheMile() {
        // 25 and 13 ahead of the first MILE HOLD at 62; 23 and 9 ahead of the second do not
        RoofMattress x = on("l10 4 7;c0 20 1;c2 8 2;r2 62 0;");
        due("2: HOLDS as CORDS are ahead of it", x.drive(1, 62), 1);
        due("2: not LOST behind it", x.told(11), 0);
        due("8: though it would not HOLD now", x.lift(62, 0, 4), 0);
        due("2: LOST at the next", x.drive(1, 62), 0);
    }

    static void lostStandsWhereOneIs() {
        RoofMattress x = on(SMALL);
        x.drive(2, 20);
        told("ahead", x, 10, 4, 7, 2, 2, 0, 2, 3, 1, 360, 0, 0, 0, 0, 2);
        due("9: how many were driven", x.drive(3, 40), 0);
        told("2: LOST: no MILE, no SECONDS", x, 10, 4, 7, 2, 2, 0, 2, 3, 1, 360, 1, 1, 0, 0, 3);
        cord("2: no less TIGHT", x, 0, 0, 20, 1, 16, 2);
        cord("2: no less TIGHT", x, 1, 2, 8, 2, 0, 2);
        due("9: the MILES ahead of it count", lostOne().told(6), 2);
    }

    static void lostOnTheFirstMile() {
        RoofMattress x = on("l1 40 0;r1 10 0;");
        due("9: none was driven", x.drive(30, 70), 0);
        told("2: LOST at once", x, 1, 40, 0, 0, 1, 0, 0, 1, 0, 0, 1, 1, 0, 0, 1);
    }

    static void firstFourMilesTwice() {
        RoofMattress x = on(LONG);
        int[] tight = {99, 81, 63, 45, 27, 18, 9, 0, 0};
        for (int mile = 0; mile < tight.length; mile++) {
            due("2: TIGHT behind " + mile, x.cord(0, 3), tight[mile]);
            due("2: MILES since", x.cord(0, 4), mile);
            due("17: as SLACK says", on(LONG).slack(0, mile), tight[mile]);
            x.drive(1, 70);
        }
        RoofMattress y = on("l99 1 5;c0 99 0;r20 70 0;r20 70 0;r20 70 0;r20 70 0;r20 70 0;r20 70 0;");
        for (int i = 0; i < 4; i++) y.drive(30, 70);
        cord("2: what does not GIVE stays", y, 0, 0, 99, 0, 99, 120);
    }

    static void zeroTightAtLeast() {
        RoofMattress x = on("l99 1 5;c0 1 9;c0 18 9;c0 19 9;c0 0 9;r3 70 0;");
        x.drive(1, 70);
        int[] tight = {0, 0, 1, 0};
        for (int c = 0; c < 4; c++) due("2: 0 at least, CORD " + c, x.cord(c, 3), tight[c]);
        x.drive(1, 70);
        for (int c = 0; c < 4; c++) due("2: 0 at least, CORD " + c, x.cord(c, 3), 0);
        due("2: MILES since go on", x.cord(3, 4), 2);
        hold("by WEIGHT alone then", x, 49, 50);
    }

    // ---- PULLED

    static void pulledByAStop() {
        RoofMattress x = on(LONG);
        x.drive(6, 60);
        due("10: SECONDS", x.stop(), 365);
        cord("2: each CORD as TIGHT as told", x, 0, 0, 99, 9, 99, 0);
        cord("2: each CORD as TIGHT as told", x, 1, 3, 1, 9, 1, 0);
        due("2: no MILE", x.told(6), 6);
        x.drive(5, 60);
        cord("2: the first 4 MILES since twice again", x, 0, 0, 99, 9, 18, 5);
        due("10: a STOP behind a STOP", x.stop(), 365 + 300 + 5);
        due("10: a STOP behind a STOP", x.stop(), 365 + 300 + 10);
        due("10: of 0 SECONDS", on("l1 1 0;").stop(), 0);
        due("10: of 999 SECONDS", on("l1 1 999;").stop(), 999);
    }

    static void pulledByRuns() {
        RoofMattress x = on(LONG);
        x.drive(6, 60);
        due("12: how it ran", x.runs(1, 2), 3);
        cord("2: it is PULLED", x, 1, 2, 1, 9, 1, 0);
        cord("2: no other is", x, 0, 0, 99, 9, 9, 6);
        due("2: S SECONDS", x.told(9), 365);
        due("12: how it ran", x.runs(0, 1), 0);
        cord("2: it is PULLED", x, 0, 1, 99, 9, 99, 0);
        x.drive(1, 60);
        cord("2: twice again", x, 0, 1, 99, 9, 81, 1);
        due("12: the way stays behind a STOP", x.stop(), 365 + 5 + 60 + 5);
        cord("12: the way stays behind a STOP", x, 0, 1, 99, 9, 99, 0);
    }

    static void pulledByPick() {
        RoofMattress x = on(SMALL);
        x.runs(1, 1);
        x.drive(2, 20);
        due("9: LOST", x.drive(1, 40), 0);
        due("13: HARMS", x.pick(), 1);
        cord("2: each CORD PULLED", x, 0, 0, 20, 1, 20, 0);
        cord("2: the way stays", x, 1, 1, 8, 2, 8, 0);
        told("2: twice S, where one was", x, 10, 4, 7, 2, 2, 0, 2, 3, 1, 7 + 360 + 14, 1, 0, 0, 0, 5);
        RoofMattress y = on("l1 40 999;r1 10 0;");
        y.drive(1, 10);
        y.pick();
        due("2: twice 999", y.told(9), 1998);
    }

    // ---- RAIN, HARMS

    static void rainTo999AtMost() {
        bounds("11: r", v -> on("l99 1 0;").rain(v), 1, 99, OUTSIDE);
        due("11: 1", on("l99 1 0;").rain(1), 100);
        due("11: 99", on("l99 1 0;").rain(99), 198);
        int[][] more = {{8, 998}, {9, 999}, {10, 999}, {99, 999}};
        for (int[] m : more) {
            RoofMattress x = nearlySoaked();
            due("2: 990 and " + m[0], x.rain(m[0]), m[1]);
            due("5: WEIGHT now", x.told(0), m[1]);
            due("11: at 999", x.rain(99), 999);
            hold("999", x, 499, 500);
            due("15: undone", x.undo(2), 0);
            due("15: WEIGHT is as ahead of them", x.told(0), 990);
        }
        RoofMattress y = lostOne();
        due("11: on what is LOST, too", y.rain(99), 109);
        due("11: LOST still", y.told(11), 1);
        due("11: OUTSIDE ahead of NOT", new RoofMattress().rain(100), OUTSIDE);
        due("11: NOT: no TRIP", new RoofMattress().rain(99), NOT);
        due("10: WEIGHT stays behind a STOP", soakedAndPulled().told(0), 990);
    }

    static RoofMattress nearlySoaked() {
        RoofMattress x = on("l99 1 0;");
        for (int i = 0; i < 9; i++) x.rain(99);
        due("2: 990", x.told(0), 990);
        return x;
    }

    static RoofMattress soakedAndPulled() {
        RoofMattress x = nearlySoaked();
        x.stop();
        return x;
    }

    static void harmsEachTime() {
        RoofMattress x = on("l1 40 1;r1 10 0;");
        due("5: no HARM", x.told(10), 0);
        for (int i = 1; i <= 40; i++) {
            x.drive(1, 10);
            due("2: HARMS", x.told(10), i);
            due("13: HARMS", x.pick(), i);
            due("13: not LOST", x.told(11), 0);
        }
        due("2: no MILE", x.told(6), 0);
        due("2: 40 times twice S", x.told(9), 80);
    }

    // ---- the calls' own bounds

    static void driveBounds() {
        bounds("9: n", v -> on(LONG).drive(v, 10), 1, 30, OUTSIDE);
        bounds("9: PACE", v -> on(LONG).drive(1, v), 10, 70, OUTSIDE);
        bounds("14: n", v -> on(LONG).drift(v, 10), 1, 30, OUTSIDE);
        bounds("14: PACE", v -> on(LONG).drift(1, v), 10, 70, OUTSIDE);
        for (boolean byDraws : new boolean[] {false, true}) {
            String p = byDraws ? "14: " : "9: ";
            due(p + "OUTSIDE ahead of NOT: no TRIP", travel(new RoofMattress(), 31, 10, byDraws), OUTSIDE);
            due(p + "OUTSIDE ahead of NOT: LOST", travel(lostOne(), 1, 71, byDraws), OUTSIDE);
            due(p + "OUTSIDE ahead of NOT: no MILES left", travel(on("l1 1 0;"), 0, 10, byDraws), OUTSIDE);
            due(p + "NOT: no TRIP", travel(new RoofMattress(), 1, 10, byDraws), NOT);
            due(p + "NOT: LOST", travel(lostOne(), 1, 10, byDraws), NOT);
            due(p + "NOT: no MILES at all", travel(on("l1 1 0;"), 1, 10, byDraws), NOT);
        }
    }

    static int travel(RoofMattress x, int n, int pace, boolean byDraws) {
        return byDraws ? x.drift(n, pace) : x.drive(n, pace);
    }

    static void asManyAsThereAre() {
        RoofMattress x = on(LONG);
        due("9: 30 of 31", x.drive(30, 10), 30);
        due("5: left", x.told(7), 1);
        due("5: the last ROAD", x.told(8), 1);
        due("9: as many as there are", x.drive(30, 10), 1);
        due("5: none left", x.told(7), 0);
        due("5: NONE at the end", x.told(8), NONE);
        due("9: NOT: no MILES left", x.drive(1, 10), NOT);
        due("14: NOT: no MILES left", x.drift(1, 10), NOT);
        due("9: SECONDS", x.told(9), 31 * 360);
        RoofMattress y = on(LONG);
        y.drive(20, 10);
        due("5: on the next ROAD as soon as one is at its end", y.told(8), 1);
        due("15: and back", y.undo(1), 19);
        due("5: on ROAD 0", y.told(8), 0);
    }

    static void stopAnywhere() {
        RoofMattress x = on(LONG);
        due("10: ahead of all", x.stop(), 5);
        x.drive(30, 10);
        x.drive(30, 10);
        due("10: at the end", x.stop(), 5 + 31 * 360 + 5);
        due("10: without CORDS and ROADS", on("l1 1 9;").stop(), 9);
        due("10: NOT: LOST", lostOne().stop(), NOT);
        due("10: NOT: no TRIP", new RoofMattress().stop(), NOT);
    }

    static void runsBounds() {
        bounds("12: way", v -> on(SMALL).runs(0, v), 0, 3, OUTSIDE);
        bounds("12: CORD", v -> on(SMALL).runs(v, 0), 0, 1, UNKNOWN);
        bounds("12: CORD of four", v -> on("l1 1 0;c0 0 0;c0 0 0;c0 0 0;c0 0 0;").runs(v, 3), 0, 3, UNKNOWN);
        due("12: UNKNOWN ahead of OUTSIDE", on(SMALL).runs(2, 4), UNKNOWN);
        due("12: UNKNOWN ahead of NOT", lostOne().runs(2, 3), UNKNOWN);
        due("12: OUTSIDE ahead of NOT", lostOne().runs(1, 4), OUTSIDE);
        due("12: NOT: LOST", lostOne().runs(1, 3), NOT);
        due("12: no TRIP, no CORD", new RoofMattress().runs(0, 0), UNKNOWN);
    }

    static void pickOnlyWhatIsLost() {
        due("13: NOT: no TRIP", new RoofMattress().pick(), NOT);
        due("13: NOT: not LOST", on(SMALL).pick(), NOT);
        RoofMattress x = lostOne();
        due("13: LOST", x.pick(), 1);
        due("13: NOT: not LOST any more", x.pick(), NOT);
        due("13: twice S once", x.told(9), 374);
        due("9: on again", x.drive(1, 10), 1);
    }

    // ---- BY DRAWS

    static void driftIsAsDrive() {
        // GUST up to 10 more lifts nothing here
        RoofMattress x = on(LONG);
        due("14: 30 of 31", x.drift(30, 10), 30);
        due("14: as many as there are", x.drift(30, 10), 1);
        told("14: as drive()", x, 99, 1, 5, 2, 2, 0, 31, 0, NONE, 31 * 360, 0, 0, 0, 0, 30);
        RoofMattress y = on(SMALL);
        due("14: the ROAD's PACE", y.drift(1, 70), 1);
        due("14: SECONDS", y.told(9), 180);
        cord("14: less TIGHT", y, 0, 0, 20, 1, 18, 1);
    }

    /** HOLDS up to 62 together, MILE by MILE. */
    static final String STEADY = "l10 4 7;c0 20 0;c2 8 0;r20 70 0;";

    /** With this SEED the first DRAW is so much: it HOLDS up to 62 less it. */
    static void firstDraw(int seed, int draw, int seedBehind) {
        RoofMattress x = on(STEADY);
        x.seed(seed);
        due("14: DRAW " + draw + " HOLDS at " + (62 - draw), x.drift(1, 62 - draw), 1);
        due("3: THE SEED becomes", x.seed(0), seedBehind);
        RoofMattress y = on(STEADY);
        y.seed(seed);
        due("14: DRAW " + draw + " does not at " + (63 - draw), y.drift(1, 63 - draw), 0);
        due("14: LOST", y.told(11), 1);
        due("14: DRAWN all the same", y.seed(0), seedBehind);
    }

    static void driftDrawsAheadOfEachMile() {
        firstDraw(0, 0, 12345);
        firstDraw(12345, 7, 1406932606);
        firstDraw(1406932606, 0, 654583775);
        firstDraw(229283573, 9, 1109335178);
        firstDraw(MOST, 1, 1043980748);
        firstDraw(2131988640, 10, (int) ((2131988640L * 1103515245L + 12345L) % 2147483648L));
        // round to the ends of what it can be
        firstDraw(2088216195, 0, 0);
        firstDraw(230538014, 9, MOST);
        RoofMattress x = on(STEADY);
        due("14: three DRAWS for three MILES", x.drift(3, 10), 3);
        due("3: THE SEED behind three", x.seed(0), 654583775);
        // DRAWS 0, 7: LOST at the second, no third DRAW
        RoofMattress y = on(STEADY);
        due("14: till it is LOST", y.drift(5, 60), 1);
        due("3: THE SEED behind two", y.seed(5), 1406932606);
        due("14: NOT draws nothing", y.drift(1, 10), NOT);
        due("14: OUTSIDE draws nothing", y.drift(1, 9), OUTSIDE);
        due("3: THE SEED stays", y.seed(0), 5);
        // GUST is so much more for this MILE alone
        RoofMattress z = on(STEADY);
        z.seed(12345);
        due("14: 7 more", z.drift(1, 55), 1);
        due("9: 0 more for the next", z.drive(1, 62), 1);
        // more than that of the ROAD on which one is: 0 and 7 and 55, then 30 and 7 and 25
        for (int pace : new int[] {25, 26}) {
            RoofMattress two = on("l10 4 7;c0 20 0;c2 8 0;r1 70 0;r1 70 30;");
            two.seed(12345);
            due("14: 7 more on ROAD 0", two.drift(1, 55), 1);
            two.seed(12345);
            due("14: 7 more on ROAD 1 at " + pace, two.drift(1, pace), pace == 25 ? 1 : 0);
        }
        // as many as there are, not one DRAW more
        RoofMattress end = on("l10 4 7;c0 20 0;c2 8 0;r2 70 0;");
        due("14: two of 30", end.drift(30, 10), 2);
        due("3: two DRAWS", end.seed(0), 1406932606);
        // GUST 30 and a DRAW of 10: 40 in all
        RoofMattress w = on("l10 4 7;c0 20 0;c2 8 0;r1 70 30;");
        w.seed(2131988640);
        due("14: 30 and 10 and 22 HOLD", w.drift(1, 22), 1);
        RoofMattress v = on("l10 4 7;c0 20 0;c2 8 0;r1 70 30;");
        v.seed(2131988640);
        due("14: 30 and 10 and 23 do not", v.drift(1, 23), 0);
    }

    // ---- UNDONE

    static void undoneAreTheLatest() {
        bounds("15: n", v -> thirtyDeeds().undo(v), 1, 30, OUTSIDE);
        due("15: OUTSIDE ahead of NOT", new RoofMattress().undo(31), OUTSIDE);
        due("15: OUTSIDE ahead of NOT", new RoofMattress().undo(0), OUTSIDE);
        due("15: NOT: none", new RoofMattress().undo(1), NOT);
        RoofMattress x = on(SMALL);
        x.rain(1);
        x.stop();
        due("15: NOT: not so many", x.undo(3), NOT);
        due("15: as many as there are", x.undo(2), 0);
        due("15: none is left", x.told(14), 0);
        // each MILE is one, that at which it is LOST, too
        RoofMattress y = lostOne();
        due("5: two MILES and the LOST one", y.told(14), 3);
        due("15: LOST undone", y.undo(1), 2);
        told("15: as ahead of it", y, 10, 4, 7, 2, 2, 0, 2, 3, 1, 360, 0, 0, 0, 0, 2);
        due("15: a MILE undone", y.undo(1), 1);
        told("15: as ahead of it", y, 10, 4, 7, 2, 2, 0, 1, 4, 0, 180, 0, 0, 0, 0, 1);
        cord("15: as ahead of it", y, 1, 2, 8, 2, 4, 1);
        due("9: and driven again", y.drive(1, 10), 1);
        due("15: the new one first", y.undo(1), 1);
        due("15: THE SEED stays", seedBehindUndo(), 1406932606);
    }

    /** HARMS and LOST are two numbers, and both come back. */
    static void undoneHarms() {
        RoofMattress x = lostOne();
        x.pick();
        due("9: LOST again", x.drive(3, 40), 2);
        due("5: HARMS", x.told(10), 2);
        x.rain(1);
        x.undo(1);
        due("15: HARMS", x.told(10), 2);
        due("15: LOST", x.told(11), 1);
        x.keep(0);
        x.pick();
        x.goBack(0);
        due("33: HARMS", x.told(10), 2);
        due("33: LOST", x.told(11), 1);
    }

    static void undoneIsSectionTwoAlone() {
        RoofMattress x = lostOne();
        tell(x, "x");
        tell(x, "l1x");
        x.keep(1);
        x.rain(5);
        x.see(0, 50, 0, true);
        x.see(1, 50, 0, true);
        x.write(0, 16);
        feedAll(x, "l10");
        x.seed(8);
        due("15: rain() undone", x.undo(1), 2);
        told("15: TEXT, SEEN, BOOK stay", x, 10, 4, 7, 2, 2, 3, 2, 3, 1, 360, 1, 1, 2, 1, 0);
        due("15: fault() stays", x.fault(), 2);
        due("15: THE SEED stays", x.seed(0), 8);
        due("15: IMAGES stay", x.goBack(1), 1);
        due("15: IMAGES stay as they were", x.goBack(0), NOT);
    }

    static RoofMattress thirtyDeeds() {
        RoofMattress x = on(LONG);
        x.drive(30, 10);
        return x;
    }

    static int seedBehindUndo() {
        RoofMattress x = on(STEADY);
        x.drift(2, 10);
        due("15: DRAWN MILES undone", x.undo(2), 0);
        return x.seed(0);
    }

    static void thirtyAreKeptAtMost() {
        RoofMattress x = on(LONG);
        x.rain(1);
        x.drive(29, 10);
        due("5: 30 can be undone", x.told(14), 30);
        x.drive(1, 10);
        due("5: 30 at most", x.told(14), 30);
        x.drive(1, 10);
        due("5: 30 at most", x.told(14), 30);
        due("15: the 30 latest", x.undo(30), 1);
        told("15: the first two stay done", x, 100, 1, 5, 2, 2, 0, 1, 30, 0, 360, 0, 0, 0, 0, 0);
        due("15: no more", x.undo(1), NOT);
    }

    static void undoneAcrossTheWrap() {
        RoofMattress x = on("l1 1 0;");
        for (int i = 0; i < 40; i++) x.rain(1);
        x.undo(10);
        due("15: 10 of 40", x.told(0), 31);
        for (int i = 0; i < 5; i++) x.rain(2);
        due("5: 25 can be undone", x.told(14), 25);
        x.undo(6);
        due("15: 5 and one of before", x.told(0), 30);
        due("15: NOT: 19 are left", x.undo(20), NOT);
        x.undo(19);
        due("15: all", x.told(0), 11);
        due("5: none", x.told(14), 0);
        for (int i = 0; i < 65; i++) x.rain(1);
        due("5: 30 again", x.told(14), 30);
        x.undo(30);
        due("15: 30 of 65", x.told(0), 46);
    }

    static void undoneSinceTextOrImage() {
        RoofMattress x = on(SMALL);
        x.rain(1);
        tell(x, SMALL);
        due("15: since the text", x.undo(1), NOT);
        x.rain(1);
        x.keep(0);
        due("15: since an IMAGE was kept", x.undo(1), NOT);
        x.rain(1);
        x.goBack(0);
        due("15: since one went back", x.undo(1), NOT);
        x.rain(2);
        due("15: what was done since", x.undo(1), 0);
        due("15: WEIGHT", x.told(0), 11);
        x.rain(1);
        tell(x, "l0");
        due("15: a text with a FAULT leaves it", x.undo(1), 0);
        due("15: WEIGHT", x.told(0), 11);
    }

    // ---- told, cord, road

    static void toldAtEveryEdge() {
        bounds("5: what", v -> on(SMALL).told(v) == NONE ? 0 : on(SMALL).told(v), 0, 14, OUTSIDE);
        due("5: OUTSIDE without a TRIP", new RoofMattress().told(15), OUTSIDE);
        told("1: a new object", new RoofMattress(), 0, 0, 0, 0, 0, 0, 0, 0, NONE, 0, 0, 0, 0, 0, 0);
        told("5: a load alone", on("l99 40 999;"), 99, 40, 999, 0, 0, 0, 0, 0, NONE, 0, 0, 0, 0, 0, 0);
        RoofMattress x = on(SMALL);
        x.feed('l');
        for (int i = 0; i < 6; i++) x.see(0, 10, 0, true);
        for (int i = 0; i < 20; i++) x.write(0, 0);
        x.rain(9);
        told("5: all", x, 19, 4, 7, 2, 2, 1, 0, 5, 0, 0, 0, 0, 6, 20, 1);
    }

    static void cordAndRoadBounds() {
        bounds("6: CORD", v -> on(SMALL).cord(v, 0), 0, 1, UNKNOWN);
        bounds("6: what", v -> on(SMALL).cord(0, v), 0, 4, OUTSIDE);
        bounds("7: ROAD", v -> on(SMALL).road(v, 0), 0, 1, UNKNOWN);
        bounds("7: what", v -> on(SMALL).road(0, v), 0, 2, OUTSIDE);
        due("6: UNKNOWN ahead of OUTSIDE", on(SMALL).cord(2, 5), UNKNOWN);
        due("7: UNKNOWN ahead of OUTSIDE", on(SMALL).road(2, 3), UNKNOWN);
    }
}
