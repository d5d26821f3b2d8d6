/** Each promise by itself, with numbers reckoned by hand: ordinary inputs, the edges that the document names, wrong inputs. */
public final class PromisesTest extends Due {
    public static void main(String[] args) {
        p01NewObject();
        p02Feed();
        p03Trip();
        p03Faults();
        p04Fault();
        p05Told();
        p06Cord();
        p07Road();
        p08Lift();
        p09Drive();
        p10Stop();
        p11Rain();
        p12Runs();
        p13Pick();
        p14Drift();
        p15Undo();
        p16Highest();
        p17Slack();
        p18Far();
        p19Stops();
        p20Soonest();
        p21Where();
        p22Hand();
        p23Van();
        p24Knots();
        p25See();
        p26Was();
        p27Tries();
        p28Write();
        p29Judge();
        p30Tear();
        p31Seed();
        p32Keep();
        p33GoBack();
        report("PromisesTest");
    }

    static void p01NewObject() {
        RoofMattress x = new RoofMattress();
        for (int what = 0; what <= 14; what++) due("1: told(" + what + ")", x.told(what), what == 8 ? NONE : 0);
        due("1: cord", x.cord(0, 0), UNKNOWN);
        due("1: road", x.road(0, 0), UNKNOWN);
        due("1: lift", x.lift(0, 0, 0), NOT);
        due("1: fault", x.fault(), NONE);
        due("1: drive", x.drive(1, 10), NOT);
        due("1: seed", x.seed(0), 0);
        due("1: goBack", x.goBack(0), NOT);
    }

    static void p02Feed() {
        RoofMattress x = new RoofMattress();
        due("2: feed(0)", x.feed(0), 1);
        due("2: feed(255)", x.feed(255), 2);
        due("2: feed(-1)", x.feed(-1), OUTSIDE);
        due("2: feed(256)", x.feed(256), OUTSIDE);
        due("2: feed(least)", x.feed(LEAST), OUTSIDE);
        due("2: feed(most)", x.feed(MOST), OUTSIDE);
        due("2: told(5)", x.told(5), 2);
        for (int i = 3; i <= 200; i++) due("2: feed", x.feed(' '), i);
        due("2: feed 201st", x.feed(' '), FULL);
        due("2: feed(256) when full", x.feed(256), OUTSIDE);
        due("2: told(5) when full", x.told(5), 200);
        due("2: trip", x.trip(), -11);
        due("2: feed anew", x.feed('l'), 1);
    }

    static void p03Trip() {
        RoofMattress x = new RoofMattress();
        due("3: trip", tell(x, SMALL), 5);
        due("3: text is empty", x.told(5), 0);
        due("3: load alone", tell(x, "l1 1 0;"), 0);
        due("3: it is a TRIP", x.lift(0, 0, 0), 0);
        due("3: no ROAD", x.told(8), NONE);
        due("3: blanks everywhere", tell(x, "  l 99  40 999 ; r 020 070 030 ;c3 099 009;  "), 20);
        due("3: three figures", x.road(0, 0), 20);
        due("3: three figures", x.cord(0, 2), 9);
        due("3: most of all", tell(x, "l99 40 999;r20 70 30;c3 99 9;r20 10 0;c0 0 0;r20 70 1;c1 1 1;r20 70 2;c2 2 2;r20 70 3;r20 70 4;"), 120);
        due("3: 4 CORDS", x.told(3), 4);
        due("3: 6 ROADS", x.told(4), 6);
        x = lostOne();
        x.seed(77);
        x.rain(5);
        x.see(0, 50, 0, true);
        x.write(0, 1);
        x.keep(0);
        x.pick();
        due("3: a fault", tell(x, "x"), -11);
        due("3: all is as it was", x.told(10), 1);
        due("3: all is as it was", x.told(14), 1);
        due("3: all is as it was", x.told(12), 1);
        due("3: text is empty", x.told(5), 0);
        due("3: image is as it was", x.goBack(0), 1);
        due("3: again", tell(x, SMALL), 5);
        int[] all = {10, 4, 7, 2, 2, 0, 0, 5, 0, 0, 0, 0, 0, 0, 0};
        for (int what = 0; what < all.length; what++) due("3: told(" + what + ") anew", x.told(what), all[what]);
        due("3: PULLED", x.cord(0, 3), 20);
        due("3: 0 MILES since", x.cord(0, 4), 0);
        due("3: IMAGES are gone", x.goBack(0), NOT);
        due("3: nothing to undo", x.undo(1), NOT);
        due("3: THE SEED stays", x.seed(0), 77);
        x.keep(1);
        x.rain(1);
        due("3: empty text", x.trip(), 0);
        due("3: nothing to undo", x.undo(1), NOT);
        due("3: no AREA", x.told(1), 0);
        due("3: no SECONDS of a STOP", x.told(2), 0);
        due("3: no TRIP", x.lift(0, 0, 0), NOT);
        due("3: no CORD", x.cord(0, 0), UNKNOWN);
        due("3: no WEIGHT", x.told(0), 0);
        due("3: IMAGES are gone", x.goBack(1), NOT);
    }

    static void faultOf(String text, int number, int letter) {
        RoofMattress x = new RoofMattress();
        due("3: trip of '" + text + "'", tell(x, text), -10 - number);
        due("4: fault of '" + text + "'", x.fault(), letter);
        due("3: no TRIP by '" + text + "'", x.highest(0), NOT);
    }

    static void p03Faults() {
        faultOf("c0 0 0;", 1, 0);
        faultOf(" r1 10 0;", 1, 1);
        faultOf("x", 1, 0);
        faultOf("L1 1 0;", 1, 0);
        faultOf("1", 1, 0);
        faultOf(";", 1, 0);
        faultOf("l", 1, 1);
        faultOf("l  ", 1, 3);
        faultOf("l1", 1, 2);
        faultOf("l1 1", 1, 4);
        faultOf("l1 1 0", 1, 6);
        faultOf("l1 1 0  ", 1, 8);
        faultOf("l1 1;", 1, 4);
        faultOf("l1 1 0 0;", 1, 7);
        faultOf("l1 1 0 1000;", 1, 7);
        faultOf("l1 1 0c", 1, 6);
        faultOf("l1l", 1, 2);
        faultOf("l1 1 0;;", 1, 7);
        faultOf("l1 1 0;5", 1, 7);
        faultOf("l1 1 0;1000", 1, 7);
        faultOf("l1\t1 0;", 1, 2);
        faultOf("l-1 1 0;", 1, 1);
        faultOf("l0 1 0;", 2, 1);
        faultOf("l100 1 0;", 2, 1);
        faultOf("l 0 1 0;", 2, 2);
        faultOf("l1 0 0;", 2, 3);
        faultOf("l1 41 0;", 2, 3);
        faultOf("l1 1 1000;", 2, 5);
        faultOf("l0001 1 0;", 2, 1);
        faultOf("l1 1 99999999999999999999;", 2, 5);
        faultOf("l100", 2, 1);
        faultOf("l100x", 2, 1);
        faultOf("l1 1 0;c4 0 0;", 2, 8);
        faultOf("l1 1 0;c0 100 0;", 2, 10);
        faultOf("l1 1 0;c0 0 10;", 2, 12);
        faultOf("l1 1 0;r0 10 0;", 2, 8);
        faultOf("l1 1 0;r21 10 0;", 2, 8);
        faultOf("l1 1 0;r1 9 0;", 2, 10);
        faultOf("l1 1 0;r1 71 0;", 2, 10);
        faultOf("l1 1 0;r1 10 31;", 2, 13);
        faultOf("l1 1 0;l1 1 0;", 3, 7);
        faultOf("l1 1 0;l", 3, 7);
        faultOf("l1 1 0;c0 0 0;c0 0 0;c0 0 0;c0 0 0;cx", 3, 35);
        faultOf("l1 1 0;r1 10 0;r1 10 0;r1 10 0;r1 10 0;r1 10 0;r1 10 0; r", 3, 56);
    }

    static void p04Fault() {
        RoofMattress x = on(SMALL);
        due("4: none", x.fault(), NONE);
        tell(x, "l1 1 0;c0 0 0;;");
        due("4: letter", x.fault(), 14);
        feedAll(x, "l1 1 0;");
        due("4: of the latest trip()", x.fault(), 14);
        x.trip();
        due("4: none then", x.fault(), NONE);
        tell(x, "z");
        due("4: letter 0", x.fault(), 0);
        x.trip();
        due("4: empty text", x.fault(), NONE);
    }

    static void p05Told() {
        RoofMattress x = on(SMALL);
        x.feed('l');
        x.rain(3);
        x.drive(3, 30);
        x.see(0, 10, 0, true);
        x.write(0, 1);
        x.write(0, 2);
        int[] all = {13, 4, 7, 2, 2, 1, 3, 2, 1, 480, 0, 0, 1, 2, 4};
        for (int what = 0; what < all.length; what++) due("5: told(" + what + ")", x.told(what), all[what]);
        due("5: told(-1)", x.told(-1), OUTSIDE);
        due("5: told(15)", x.told(15), OUTSIDE);
        due("5: told(least)", x.told(LEAST), OUTSIDE);
        due("5: told(most)", x.told(MOST), OUTSIDE);
        x.undo(1);
        due("5: at a ROAD's begin", x.told(8), 1);
        x.undo(1);
        due("5: within ROAD 0", x.told(8), 0);
        x = lostOne();
        due("5: HARMS", x.told(10), 1);
        due("5: LOST", x.told(11), 1);
        x.pick();
        x.drive(30, 10);
        due("5: at the end", x.told(8), NONE);
        due("5: none left", x.told(7), 0);
    }

    static void p06Cord() {
        RoofMattress x = on(SMALL);
        x.drive(1, 20);
        int[][] all = {{0, 20, 1, 18, 1}, {2, 8, 2, 4, 1}};
        for (int c = 0; c < 2; c++)
            for (int what = 0; what < 5; what++) due("6: cord(" + c + ", " + what + ")", x.cord(c, what), all[c][what]);
        due("6: cord(-1, 9)", x.cord(-1, 9), UNKNOWN);
        due("6: cord(2, 0)", x.cord(2, 0), UNKNOWN);
        due("6: cord(4, 0)", x.cord(4, 0), UNKNOWN);
        due("6: cord(most, 0)", x.cord(MOST, 0), UNKNOWN);
        due("6: cord(least, 0)", x.cord(LEAST, 0), UNKNOWN);
        due("6: cord(0, -1)", x.cord(0, -1), OUTSIDE);
        due("6: cord(0, 5)", x.cord(0, 5), OUTSIDE);
    }

    static void p07Road() {
        RoofMattress x = on(SMALL);
        int[][] all = {{2, 20, 0}, {3, 40, 5}};
        for (int r = 0; r < 2; r++)
            for (int what = 0; what < 3; what++) due("7: road(" + r + ", " + what + ")", x.road(r, what), all[r][what]);
        due("7: road(2, 9)", x.road(2, 9), UNKNOWN);
        due("7: road(-1, 0)", x.road(-1, 0), UNKNOWN);
        due("7: road(least, 0)", x.road(LEAST, 0), UNKNOWN);
        due("7: road(0, 3)", x.road(0, 3), OUTSIDE);
        due("7: road(0, -1)", x.road(0, -1), OUTSIDE);
    }

    static void p08Lift() {
        RoofMattress x = on(SMALL);
        // 62 * 62 / 100 = 38: 25 and 13; 63 * 63 / 100 = 39: 26 and 13
        due("8: FRONT", x.lift(57, 5, 0), 25);
        due("8: BACK", x.lift(57, 5, 1), 13);
        due("8: HOLD FRONT", x.lift(57, 5, 2), 25);
        due("8: HOLD BACK", x.lift(57, 5, 3), 13);
        due("8: HOLDS", x.lift(57, 5, 4), 1);
        due("8: HOLDS not", x.lift(58, 5, 4), 0);
        due("8: HOLDS not at the BACK", on("l10 4 0;c0 99 0;").lift(40, 0, 4), 0);
        due("8: HOLDS at the BACK", on("l10 4 0;c0 99 0;").lift(39, 0, 4), 1);
        due("8: at 0", x.lift(0, 0, 0), 0);
        due("8: at 99", x.lift(99, 30, 0), 110);
        due("8: at 99", x.lift(99, 30, 1), 56);
        // halves of odd numbers: 7 / 2 = 3 and 4; 5 / 2 = 2 and 3; 9 / 2 = 4 and 5
        RoofMattress odd = on("l7 1 0;c1 5 0;c3 9 0;c0 11 0;c2 13 0;");
        due("8: halves FRONT", odd.lift(10, 0, 2), 3 + 2 + 4 + 11);
        due("8: halves BACK", odd.lift(10, 0, 3), 4 + 3 + 5 + 13);
        due("8: pace", x.lift(100, 0, 0), OUTSIDE);
        due("8: pace", x.lift(-1, 0, 0), OUTSIDE);
        due("8: gust", x.lift(0, 31, 0), OUTSIDE);
        due("8: gust", x.lift(0, -1, 0), OUTSIDE);
        due("8: what", x.lift(0, 0, 5), OUTSIDE);
        due("8: what", x.lift(0, 0, -1), OUTSIDE);
        due("8: OUTSIDE first", new RoofMattress().lift(0, 0, 5), OUTSIDE);
        due("8: no TRIP", new RoofMattress().lift(0, 0, 4), NOT);
        due("8: when LOST", lostOne().lift(40, 5, 1), 7);
    }

    static void p09Drive() {
        RoofMattress x = on(SMALL);
        due("9: by the ROAD's PACE", x.drive(1, 70), 1);
        due("9: SECONDS", x.told(9), 180);
        due("9: by one's own PACE", x.drive(1, 11), 1);
        due("9: SECONDS cut", x.told(9), 180 + 327);
        due("9: till the end", x.drive(30, 34), 3);
        due("9: SECONDS cut", x.told(9), 507 + 3 * 105);
        due("9: 0 at least", x.cord(1, 3), 0);
        due("9: twice in 4 MILES, then once", x.cord(0, 3), 20 - 8 - 1);
        due("9: since", x.cord(0, 4), 5);
        due("9: no MILES left", x.drive(1, 10), NOT);
        due("9: no ROAD", on("l1 1 0;").drive(1, 10), NOT);
        x = lostOne();
        due("9: HARMS", x.told(10), 1);
        due("9: where one is", x.told(6), 2);
        due("9: SECONDS", x.told(9), 360);
        due("9: as TIGHT as ahead", x.cord(0, 3), 16);
        due("9: LOST", x.drive(1, 10), NOT);
        due("9: OUTSIDE first", x.drive(0, 10), OUTSIDE);
        for (int n : new int[] {0, 31, -1, LEAST, MOST}) due("9: n", x.drive(n, 10), OUTSIDE);
        for (int p : new int[] {9, 71, -1, LEAST, MOST}) due("9: pace", x.drive(1, p), OUTSIDE);
        due("9: no TRIP", new RoofMattress().drive(1, 10), NOT);
        due("9: LOST at once", on("l1 40 0;r1 10 0;").drive(1, 10), 0);
    }

    static void p10Stop() {
        RoofMattress x = on(SMALL);
        x.drive(2, 20);
        due("10: SECONDS", x.stop(), 367);
        due("10: PULLED", x.cord(0, 3), 20);
        due("10: PULLED", x.cord(1, 3), 8);
        due("10: since", x.cord(1, 4), 0);
        due("10: no MILE", x.told(6), 2);
        due("10: a deed", x.told(14), 3);
        x.drive(3, 10);
        due("10: at the end too", x.stop(), 367 + 3 * 360 + 7);
        due("10: LOST", lostOne().stop(), NOT);
        due("10: no TRIP", new RoofMattress().stop(), NOT);
    }

    static void p11Rain() {
        RoofMattress x = on("l99 4 7;r2 20 0;");
        due("11: WEIGHT", x.rain(1), 100);
        due("11: told", x.told(0), 100);
        due("11: HOLD", x.lift(10, 0, 2), 50);
        for (int i = 1; i <= 9; i++) due("11: more", x.rain(99), 100 + 99 * i);
        due("11: 999 at most", x.rain(9), 999);
        due("11: a deed still", x.told(14), 11);
        for (int r : new int[] {0, 100, -1, LEAST, MOST}) due("11: r", x.rain(r), OUTSIDE);
        due("11: OUTSIDE first", new RoofMattress().rain(0), OUTSIDE);
        due("11: no TRIP", new RoofMattress().rain(1), NOT);
        due("11: LOST too", lostOne().rain(9), 19);
        due("11: no SECONDS", x.told(9), 0);
    }

    static void p12Runs() {
        RoofMattress x = on(SMALL);
        x.drive(1, 20);
        due("12: how it ran", x.runs(1, 3), 2);
        due("12: how it runs", x.cord(1, 0), 3);
        due("12: PULLED", x.cord(1, 3), 8);
        due("12: since", x.cord(1, 4), 0);
        due("12: the other not", x.cord(0, 3), 18);
        due("12: the other not", x.cord(0, 4), 1);
        due("12: SECONDS", x.told(9), 187);
        due("12: HOLD", x.lift(10, 0, 2), 5 + 18 + 4);
        due("12: the same way", x.runs(1, 3), 3);
        due("12: SECONDS", x.told(9), 194);
        due("12: UNKNOWN first", x.runs(2, 9), UNKNOWN);
        due("12: way", x.runs(0, 4), OUTSIDE);
        due("12: way", x.runs(0, -1), OUTSIDE);
        due("12: deeds", x.told(14), 3);
        due("12: LOST", lostOne().runs(0, 1), NOT);
        due("12: OUTSIDE first", lostOne().runs(0, 4), OUTSIDE);
        due("12: no TRIP", new RoofMattress().runs(0, 1), UNKNOWN);
    }

    static void p13Pick() {
        RoofMattress x = lostOne();
        due("13: HARMS", x.pick(), 1);
        due("13: on the roof", x.told(11), 0);
        due("13: SECONDS", x.told(9), 360 + 14);
        due("13: PULLED", x.cord(0, 3), 20);
        due("13: PULLED", x.cord(1, 3), 8);
        due("13: since", x.cord(1, 4), 0);
        due("13: where one was", x.told(6), 2);
        due("13: not LOST", x.pick(), NOT);
        due("13: LOST again", x.drive(9, 40), 2);
        due("13: HARMS", x.pick(), 2);
        due("13: no TRIP", new RoofMattress().pick(), NOT);
    }

    static void p14Drift() {
        RoofMattress x = on(SMALL);
        // DRAWS 0, 7, 0, 7: at 30 with 5 + 7 it is 17: 11 and 6 against 19 and 5
        due("14: till LOST", x.drift(5, 30), 3);
        due("14: SECONDS", x.told(9), 480);
        due("14: HARMS", x.told(10), 1);
        due("14: each a deed", x.told(14), 4);
        due("14: THE SEED behind 4 DRAWS", x.seed(7), 1449466924);
        due("14: LOST", x.drift(1, 10), NOT);
        due("14: no DRAW", x.seed(7), 7);
        due("14: OUTSIDE first", x.drift(31, 10), OUTSIDE);
        due("14: n", x.drift(0, 10), OUTSIDE);
        due("14: pace", x.drift(1, 9), OUTSIDE);
        due("14: pace", x.drift(1, 71), OUTSIDE);
        due("14: no TRIP", new RoofMattress().drift(1, 10), NOT);
        // DRAWS 6, 5, 0, 3, 4: at the end no further DRAW
        RoofMattress y = on(SMALL);
        y.seed(7);
        due("14: till the end", y.drift(30, 20), 5);
        due("14: THE SEED behind 5 DRAWS", y.seed(0), 2131988640);
        due("14: no MILES left", y.drift(1, 20), NOT);
        // DRAW 10 is the most: at 10 with 30 + 10 it is 50 * 50 / 100 = 25: 16 and 9
        RoofMattress z = on("l18 4 7;c0 7 0;r2 10 30;");
        z.seed(2131988640);
        due("14: a DRAW of 10 HOLDS", z.drift(1, 70), 1);
        RoofMattress w = on("l16 4 7;c0 8 0;r2 10 30;");
        w.seed(2131988640);
        due("14: a DRAW of 10 HOLDS not", w.drift(1, 70), 0);
        due("14: without a DRAW it does", on("l16 4 7;c0 8 0;r2 10 30;").drive(1, 70), 1);
    }

    static void p15Undo() {
        RoofMattress x = on(SMALL);
        x.seed(7);
        x.rain(5);
        x.runs(1, 3);
        x.drift(2, 20);
        x.stop();
        x.drive(1, 40);
        due("15: LOST", x.told(11), 0);
        x.drive(2, 70);
        due("15: driven", x.told(6), 5);
        due("15: 8 deeds", x.told(14), 8);
        due("15: the latest", x.undo(1), 4);
        due("15: two more", x.undo(2), 2);
        due("15: the STOP", x.undo(1), 2);
        due("15: SECONDS", x.told(9), 367);
        due("15: TIGHT", x.cord(0, 3), 16);
        due("15: since", x.cord(0, 4), 2);
        due("15: two MILES", x.undo(2), 0);
        due("15: the way", x.cord(1, 0), 3);
        due("15: runs()", x.undo(1), 0);
        due("15: the way", x.cord(1, 0), 2);
        due("15: SECONDS", x.told(9), 0);
        due("15: WEIGHT", x.told(0), 15);
        due("15: rain()", x.undo(1), 0);
        due("15: WEIGHT", x.told(0), 10);
        due("15: none left", x.undo(1), NOT);
        due("15: THE SEED stays", x.seed(0), 642666333);
        RoofMattress y = lostOne();
        y.pick();
        due("15: LOST again", y.undo(1), 2);
        due("15: LOST again", y.told(11), 1);
        due("15: HARMS", y.told(10), 1);
        due("15: the MILE at which it was LOST", y.undo(1), 2);
        due("15: not LOST", y.told(11), 0);
        due("15: HARMS", y.told(10), 0);
        due("15: not so many", y.undo(3), NOT);
        due("15: nothing changed", y.told(14), 2);
        for (int n : new int[] {0, 31, -1, LEAST, MOST}) due("15: n", y.undo(n), OUTSIDE);
        RoofMattress z = on("l1 1 0;");
        for (int i = 0; i < 35; i++) z.rain(1);
        due("15: 30 are kept", z.told(14), 30);
        due("15: 30", z.undo(30), 0);
        due("15: WEIGHT", z.told(0), 6);
        due("15: no more", z.undo(1), NOT);
        z.rain(1);
        z.seed(3);
        z.see(0, 10, 0, true);
        due("15: refused calls, seed() are no deeds", z.told(14), 1);
    }

    static void p16Highest() {
        RoofMattress x = on(SMALL);
        due("16: in 0", x.highest(0), 62);
        due("16: in 5", x.highest(5), 57);
        due("16: in 30", x.highest(30), 32);
        x.drive(1, 20);
        due("16: behind a MILE", x.highest(0), 52);
        x.drive(1, 20);
        due("16: behind two", x.highest(0), 39);
        due("16: 70 at most", on("l99 1 0;").highest(0), 70);
        // 8 * 100 / 400 = 2: 1 and 1 against 0 and 1
        due("16: NONE", on("l1 8 0;").highest(0), NONE);
        due("16: 10 at least", on("l2 8 0;").highest(2), 10);
        due("16: NONE", on("l2 8 0;").highest(3), NONE);
        due("16: LOST", lostOne().highest(0), 39);
        due("16: gust", x.highest(31), OUTSIDE);
        due("16: gust", x.highest(-1), OUTSIDE);
        due("16: OUTSIDE first", new RoofMattress().highest(31), OUTSIDE);
        due("16: no TRIP", new RoofMattress().highest(0), NOT);
    }

    static void p17Slack() {
        RoofMattress x = on(SMALL);
        int[] tight = {20, 18, 16, 14, 12, 11, 10};
        for (int n = 0; n < tight.length; n++) due("17: slack(0, " + n + ")", x.slack(0, n), tight[n]);
        due("17: 0 at least", x.slack(0, 99), 0);
        due("17: 0 at least", x.slack(1, 3), 0);
        x.drive(3, 20);
        due("17: from now", x.slack(0, 0), 14);
        due("17: the fourth twice", x.slack(0, 1), 12);
        due("17: then once", x.slack(0, 2), 11);
        due("17: nothing changes", x.cord(0, 3), 14);
        due("17: UNKNOWN first", x.slack(2, 100), UNKNOWN);
        due("17: UNKNOWN", x.slack(-1, 0), UNKNOWN);
        due("17: n", x.slack(0, 100), OUTSIDE);
        due("17: n", x.slack(0, -1), OUTSIDE);
        due("17: no TRIP", new RoofMattress().slack(0, 0), UNKNOWN);
    }

    static void p18Far() {
        RoofMattress x = on(SMALL);
        due("18: BACK 13, 9, then 5 against 7", x.far(40, 5), 2);
        due("18: FRONT 10 against 5 and 5", x.far(34, 5), 12);
        due("18: not once", x.far(63, 0), 0);
        due("18: once", x.far(62, 0), 1);
        due("18: 99", x.far(10, 0), 99);
        // 10 against 5 and the CORD, which is 95 less n from MILE 4 on: 5 at 90
        due("18: below 99", on("l10 4 0;c0 99 1;").far(34, 5), 91);
        due("18: more than all MILES left", on("l10 4 0;r1 70 30;").far(10, 0), 99);
        x.drive(1, 20);
        due("18: from now", x.far(40, 5), 1);
        for (int p : new int[] {9, 71, LEAST, MOST}) due("18: pace", x.far(p, 0), OUTSIDE);
        for (int g : new int[] {-1, 31, LEAST, MOST}) due("18: gust", x.far(10, g), OUTSIDE);
        due("18: OUTSIDE first", new RoofMattress().far(9, 0), OUTSIDE);
        due("18: no TRIP", new RoofMattress().far(10, 0), NOT);
    }

    static void p19Stops() {
        RoofMattress x = on(SMALL);
        // on ROAD 1 at 35 and more the BACK lifts by 6 or 7: a CORD pulled lasts for two MILES of three
        due("19: fewest", x.stops(70, 0), 2);
        due("19: the first as late as can be", x.stops(70, 1), 2);
        due("19: fewest", x.stops(35, 0), 2);
        due("19: none needed", x.stops(34, 0), 0);
        due("19: none needed", x.stops(34, 1), NONE);
        x.drive(1, 20);
        due("19: of what is left", x.stops(70, 0), 2);
        due("19: from now", x.stops(70, 1), 1);
        x.drive(1, 20);
        due("19: ahead of MILE 0", x.stops(70, 1), 0);
        x.stop();
        due("19: behind a STOP", x.stops(70, 0), 1);
        due("19: behind a STOP", x.stops(70, 1), 2);
        x.drive(3, 10);
        due("19: none left", x.stops(70, 0), 0);
        due("19: none left", x.stops(70, 1), NONE);
        // HOLD 25 and 13: 63 * 63 / 100 = 39 is too much even when just PULLED
        RoofMattress y = on("l10 4 7;c0 20 1;c2 8 2;r2 20 0;r1 63 0;");
        due("19: it cannot be", y.stops(63, 0), -2);
        due("19: it cannot be", y.stops(63, 1), -2);
        due("19: it can", y.stops(62, 0), 1);
        due("19: ahead of MILE 2", y.stops(62, 1), 2);
        for (int p : new int[] {9, 71, LEAST, MOST}) due("19: pace", x.stops(p, 0), OUTSIDE);
        for (int w : new int[] {-1, 2, LEAST, MOST}) due("19: what", x.stops(10, w), OUTSIDE);
        due("19: LOST", lostOne().stops(10, 0), NOT);
        due("19: OUTSIDE first", lostOne().stops(9, 0), OUTSIDE);
        due("19: no TRIP", new RoofMattress().stops(10, 0), NOT);
        // the way as it runs now, WEIGHT as it is now: over the FRONT the BACK has 5, with RAIN 7
        RoofMattress z = on(SMALL);
        z.runs(1, 0);
        due("19: as CORDS run now", z.stops(70, 0), -2);
        z.rain(4);
        due("19: by WEIGHT now", z.stops(70, 0), 0);
    }

    static void p20Soonest() {
        RoofMattress x = on(SMALL);
        // at 40 with two STOPS 360 + 270 + 14; at 34 without 360 + 315
        due("20: PACE", x.soonest(0), 40);
        due("20: SECONDS", x.soonest(1), 644);
        // a STOP takes 90: 360 + 270 + 180 is more
        RoofMattress y = on("l10 4 90;c0 20 1;c2 8 2;r2 20 0;r3 40 5;");
        due("20: PACE", y.soonest(0), 34);
        due("20: SECONDS", y.soonest(1), 675);
        y.drive(3, 34);
        due("20: of MILES left", y.soonest(1), 210);
        y.drive(3, 34);
        due("20: at the end the least PACE", y.soonest(0), 10);
        due("20: at the end", y.soonest(1), 0);
        RoofMattress z = on("l1 40 0;r1 10 0;");
        due("20: by none", z.soonest(0), NONE);
        due("20: by none", z.soonest(1), NONE);
        // 3600 / 66 = 54 from 66 on; 3600 / 65 = 55
        due("20: of like ones the least", on("l99 1 0;r1 66 0;").soonest(0), 66);
        due("20: 3600 / 68 = 3600 / 69 = 52", on("l99 1 0;r1 69 0;").soonest(0), 68);
        due("20: 70 too", on("l99 1 0;r1 70 0;").soonest(0), 70);
        due("20: what", x.soonest(2), OUTSIDE);
        due("20: what", x.soonest(-1), OUTSIDE);
        due("20: LOST", lostOne().soonest(0), NOT);
        due("20: OUTSIDE first", lostOne().soonest(2), OUTSIDE);
        due("20: no TRIP", new RoofMattress().soonest(0), NOT);
    }

    static void p21Where() {
        RoofMattress x = on(SMALL);
        // 25 and 13 bear 38; the next best, 23 and 15 by ways 1 and 0, bear 35
        due("21: HIGHEST", x.where(0, NONE), 62);
        due("21: way", x.where(0, 0), 0);
        due("21: way", x.where(0, 1), 2);
        due("21: in a GUST", x.where(30, NONE), 32);
        x.drive(2, 20);
        x.runs(0, 2);
        due("21: anew, as told", x.where(0, NONE), 62);
        due("21: nothing changes", x.cord(0, 0), 2);
        x.rain(20);
        // 35 and 23 bear 53; at 70 it is 49
        due("21: by WEIGHT now", x.where(0, NONE), 70);
        RoofMattress y = on("l99 1 0;c2 9 0;c3 9 0;");
        due("21: of like ones the first", y.where(0, 0), 0);
        due("21: of like ones the first", y.where(0, 1), 0);
        // 10 at a PACE of 10: 6 and 4; no way of a CORD of 9 gives both
        RoofMattress z = on("l1 40 0;c2 9 0;");
        due("21: by none", z.where(0, NONE), -1);
        due("21: by none the first", z.where(0, 0), 0);
        due("21: no CORDS", on("l99 1 0;").where(0, NONE), 70);
        due("21: UNKNOWN first", x.where(31, 2), UNKNOWN);
        due("21: UNKNOWN", x.where(0, -2), UNKNOWN);
        due("21: UNKNOWN", x.where(0, LEAST), UNKNOWN);
        due("21: gust", x.where(31, NONE), OUTSIDE);
        due("21: gust", x.where(-1, 0), OUTSIDE);
        due("21: no TRIP", new RoofMattress().where(0, NONE), NOT);
        due("21: no TRIP, no CORD", new RoofMattress().where(0, 0), UNKNOWN);
        // 16 and 6 bear 18, 11 and 11 bear 17; ways 0, 1 come ahead of 1, 0
        RoofMattress w = on("l2 8 0;c1 10 0;c1 10 0;");
        due("21: CORD by CORD", w.where(0, 0), 0);
        due("21: CORD by CORD", w.where(0, 1), 1);
    }

    static void p22Hand() {
        RoofMattress x = on(SMALL);
        due("22: 35 and 13 bear 39, at 63", x.hand(10, 0), 1);
        due("22: none", x.hand(0, 0), 0);
        RoofMattress y = on("l1 8 0;r1 10 0;");
        due("22: taken as 9", y.hand(1, 0), 3);
        due("22: NONE", y.hand(0, 0), NONE);
        due("22: NONE by the BACK", y.hand(99, 30), NONE);
        due("22: LOST too", lostOne().hand(0, 0), 0);
        for (int h : new int[] {-1, 100, LEAST, MOST}) due("22: h", x.hand(h, 0), OUTSIDE);
        for (int g : new int[] {-1, 31, LEAST, MOST}) due("22: gust", x.hand(0, g), OUTSIDE);
        due("22: OUTSIDE first", new RoofMattress().hand(-1, 0), OUTSIDE);
        due("22: no TRIP", new RoofMattress().hand(0, 0), NOT);
    }

    static void p23Van() {
        RoofMattress x = new RoofMattress();
        due("23: worth it", x.van(9, 10, 100), 1);
        due("23: as much is not", x.van(10, 10, 100), 0);
        due("23: cut", x.van(9, 99, 10), 0);
        due("23: most", x.van(999, 100, 9999), 1);
        due("23: least", x.van(0, 0, 0), 0);
        for (int v : new int[] {-1, 1000, LEAST, MOST}) due("23: x", x.van(v, 0, 0), OUTSIDE);
        for (int v : new int[] {-1, 101, LEAST, MOST}) due("23: q", x.van(0, v, 0), OUTSIDE);
        for (int v : new int[] {-1, 10000, LEAST, MOST}) due("23: y", x.van(0, 0, v), OUTSIDE);
    }

    static void p24Knots() {
        RoofMattress x = on(SMALL);
        due("24: two CORDS", x.knots(2, 10), 656100000);
        due("24: cut each", x.knots(3, 33), 90458381);
        due("24: 0 MILES", x.knots(0, 100), 1000000000);
        due("24: surely not", x.knots(1, 100), 0);
        due("24: surely", x.knots(60, 0), 1000000000);
        due("24: no CORDS", new RoofMattress().knots(60, 100), 1000000000);
        for (int v : new int[] {-1, 61, LEAST, MOST}) due("24: n", x.knots(v, 0), OUTSIDE);
        for (int v : new int[] {-1, 101, LEAST, MOST}) due("24: q", x.knots(0, v), OUTSIDE);
    }

    static void p25See() {
        RoofMattress x = on(SMALL);
        due("25: how much", x.see(0, 10, 0, true), 1);
        due("25: how much", x.see(1, 70, 30, false), 2);
        // 40 and 20 together: 36: 24 against 25, 12 against 5 and the CORD
        RoofMattress y = on(SMALL);
        y.see(1, 40, 20, true);
        due("25: the GUST counts", y.was(1, 1), 7);
        due("25: UNKNOWN first", x.see(2, 9, 0, true), UNKNOWN);
        due("25: UNKNOWN", x.see(-1, 10, 0, true), UNKNOWN);
        for (int p : new int[] {9, 71, LEAST, MOST}) due("25: pace", x.see(0, p, 0, true), OUTSIDE);
        for (int g : new int[] {-1, 31, LEAST, MOST}) due("25: gust", x.see(0, 10, g, true), OUTSIDE);
        for (int i = 3; i <= 6; i++) due("25: how much", x.see(0, 10, 0, true), i);
        due("25: FULL", x.see(0, 10, 0, true), FULL);
        due("25: UNKNOWN first", x.see(2, 10, 0, true), UNKNOWN);
        due("25: OUTSIDE first", x.see(0, 9, 0, true), OUTSIDE);
        due("25: told", x.told(12), 6);
        due("25: no TRIP", new RoofMattress().see(0, 10, 0, true), UNKNOWN);
        x.keep(0);
        x.goBack(0);
        due("25: IMAGES do not keep it, nor undo it", x.told(12), 6);
    }

    static void p26Was() {
        RoofMattress x = on(SMALL);
        due("26: nothing SEEN", x.was(0, 0), 100);
        // 25: 16 and 9, so 11 at least; 36: 24 and 12, so 18 at most
        x.see(0, 50, 0, true);
        due("26: how many", x.was(0, 0), 89);
        due("26: least", x.was(0, 1), 11);
        due("26: most", x.was(0, 2), 99);
        x.see(0, 60, 0, false);
        due("26: how many", x.was(0, 0), 8);
        due("26: least", x.was(0, 1), 11);
        due("26: most", x.was(0, 2), 18);
        due("26: of the other nothing", x.was(1, 0), 100);
        // 36: 24 against 25, 12 against 5 and the CORD
        x.see(1, 60, 0, true);
        due("26: over the BACK", x.was(1, 1), 7);
        x.drive(1, 20);
        due("26: all others as now: 9 of 9", x.was(0, 0), 89);
        x.drive(1, 20);
        due("26: all others as now: 5 of 9", x.was(0, 0), 0);
        due("26: NONE", x.was(0, 1), NONE);
        due("26: NONE", x.was(0, 2), NONE);
        // halves: 25: 16 and 9 against 5 and t / 2, 5 and the rest
        RoofMattress y = on("l10 4 0;c1 0 0;");
        y.see(0, 50, 0, true);
        due("26: over the middle", y.was(0, 1), 22);
        y.see(0, 51, 0, false);
        due("26: over the middle", y.was(0, 2), 23);
        // 4: 2 and 2 against 9 and 1: the rest of 1 is 1
        RoofMattress z = on("l1 4 0;c3 0 0;c0 9 0;");
        z.see(0, 20, 0, true);
        due("26: along, the rest at the BACK", z.was(0, 1), 1);
        due("26: UNKNOWN first", x.was(2, 3), UNKNOWN);
        due("26: UNKNOWN", x.was(-1, 0), UNKNOWN);
        due("26: what", x.was(0, 3), OUTSIDE);
        due("26: what", x.was(0, -1), OUTSIDE);
        due("26: no TRIP", new RoofMattress().was(0, 0), UNKNOWN);
    }

    static void p27Tries() {
        RoofMattress x = on(SMALL);
        x.see(0, 50, 0, true);
        x.see(0, 60, 0, false);
        // of 11 .. 18: at 55 it is 30, 20 at the FRONT: 15 and more HOLD, four of eight
        due("27: halves", x.tries(0, 0), 55);
        due("27: in a GUST", x.tries(0, 30), 25);
        x.see(0, 57, 0, false);
        // 32: 21, so 15 at most: of 11 .. 15 at 52 (27: 18) and 53 (28: 18) three HOLD, at 54 (29: 19) two: three are the most
        due("27: of like ones the least", x.tries(0, 0), 52);
        RoofMattress y = on(SMALL);
        y.see(0, 50, 0, true);
        y.see(0, 51, 0, false);
        // 26: 17: one is left, 11
        due("27: one is left", y.was(0, 0), 1);
        due("27: NONE", y.tries(0, 0), NONE);
        due("26: the least is the most", y.was(0, 1), 11);
        y.see(0, 50, 0, false);
        due("27: none is left", y.tries(0, 0), NONE);
        due("27: none parts them", on("l99 1 0;c0 9 0;").tries(0, 0), NONE);
        due("27: UNKNOWN first", x.tries(2, 31), UNKNOWN);
        due("27: gust", x.tries(0, 31), OUTSIDE);
        due("27: gust", x.tries(0, -1), OUTSIDE);
        due("27: no TRIP", new RoofMattress().tries(0, 0), UNKNOWN);
    }

    static void p28Write() {
        RoofMattress x = on(SMALL);
        due("28: how many", x.write(0, 0), 1);
        due("28: how many", x.write(1, 99), 2);
        due("28: UNKNOWN first", x.write(2, 100), UNKNOWN);
        due("28: UNKNOWN", x.write(-1, 0), UNKNOWN);
        for (int t : new int[] {-1, 100, LEAST, MOST}) due("28: tight", x.write(0, t), OUTSIDE);
        for (int i = 3; i <= 20; i++) due("28: how many", x.write(0, 20), i);
        due("28: FULL", x.write(0, 20), FULL);
        due("28: OUTSIDE first", x.write(0, 100), OUTSIDE);
        due("28: told", x.told(13), 20);
        due("28: no TRIP", new RoofMattress().write(0, 0), UNKNOWN);
    }

    static void p29Judge() {
        RoofMattress x = on(SMALL);
        due("29: no BOOK", x.judge(), NONE);
        x.write(1, 8);
        x.write(0, 20);
        due("29: as now", x.judge(), NONE);
        x.write(0, 18);
        due("29: the third", x.judge(), 2);
        x.drive(1, 20);
        due("29: the first", x.judge(), 0);
        x.runs(1, 2);
        due("29: the second", x.judge(), 1);
        x.undo(2);
        due("29: undone", x.judge(), 2);
        due("29: no TRIP", new RoofMattress().judge(), NONE);
    }

    static void p30Tear() {
        RoofMattress x = on(SMALL);
        due("30: nothing", x.tear(), 0);
        x.see(0, 50, 0, true);
        x.write(0, 1);
        x.write(0, 2);
        due("30: both", x.tear(), 3);
        due("30: nothing SEEN", x.told(12), 0);
        due("30: no BOOK", x.told(13), 0);
        due("30: judge", x.judge(), NONE);
        due("30: was", x.was(0, 0), 100);
        due("30: anew", x.see(0, 50, 0, true), 1);
        due("30: anew", x.write(0, 1), 1);
        due("30: no TRIP", new RoofMattress().tear(), 0);
    }

    static void p31Seed() {
        RoofMattress x = new RoofMattress();
        due("31: 0 at first", x.seed(5), 0);
        due("31: what it was", x.seed(MOST), 5);
        due("31: below 0", x.seed(-1), OUTSIDE);
        due("31: below 0", x.seed(LEAST), OUTSIDE);
        due("31: stays", x.seed(0), MOST);
    }

    static void p32Keep() {
        RoofMattress x = on(SMALL);
        x.drive(1, 20);
        due("32: keep", x.keep(0), 1);
        due("32: nothing can be undone", x.told(14), 0);
        due("32: nothing can be undone", x.undo(1), NOT);
        x.drive(1, 20);
        due("32: since the IMAGE", x.told(14), 1);
        due("32: the other", x.keep(1), 1);
        for (int i : new int[] {-1, 2, LEAST, MOST}) due("32: UNKNOWN", x.keep(i), UNKNOWN);
        x.goBack(0);
        due("32: IMAGE 0", x.told(6), 1);
        x.goBack(1);
        due("32: IMAGE 1", x.told(6), 2);
        x.drive(1, 20);
        x.keep(0);
        x.drive(1, 20);
        x.goBack(0);
        due("32: kept anew", x.told(6), 3);
        RoofMattress y = new RoofMattress();
        y.seed(9);
        due("32: no TRIP", y.keep(1), 1);
        y.seed(10);
        due("32: no TRIP", y.goBack(1), 1);
        due("32: THE SEED", y.seed(0), 9);
    }

    static void p33GoBack() {
        RoofMattress x = lostOne();
        x.seed(50);
        x.rain(7);
        x.keep(1);
        x.pick();
        x.runs(1, 1);
        x.drive(1, 10);
        x.rain(1);
        x.see(0, 50, 0, true);
        x.write(0, 1);
        x.seed(60);
        due("33: not kept", x.goBack(0), NOT);
        due("33: nothing changed", x.told(14), 4);
        due("33: goBack", x.goBack(1), 1);
        int[] all = {17, 4, 7, 2, 2, 0, 2, 3, 1, 360, 1, 1, 1, 1, 0};
        for (int what = 0; what < all.length; what++) due("33: told(" + what + ")", x.told(what), all[what]);
        due("33: way", x.cord(1, 0), 2);
        due("33: TIGHT", x.cord(0, 3), 16);
        due("33: since", x.cord(0, 4), 2);
        due("33: THE SEED", x.seed(0), 50);
        due("33: nothing can be undone", x.undo(1), NOT);
        x.pick();
        due("33: again", x.goBack(1), 1);
        due("33: LOST", x.told(11), 1);
        for (int i : new int[] {-1, 2, LEAST, MOST}) due("33: UNKNOWN", x.goBack(i), UNKNOWN);
    }
}
