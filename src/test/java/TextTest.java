/** Section 1 and promises 2 to 4, sentence by sentence: what may stand in THE TEXT, which FAULT is told, and where. */
public final class TextTest extends Due {
    static final int FULL_TEXT = 200;
    static final String LOAD = "l1 1 0;";

    public static void main(String[] args) {
        lettersAreZeroTo255();
        twoHundredLettersAtMost();
        numbersKeepToTheirBounds();
        numbersHaveOneToThreeFigures();
        loadIsFirstAndOnce();
        fourCordsAtMost();
        sixRoadsAtMost();
        wordsAreOneLetter();
        blanksMayStandAnywhereButWithinNumbers();
        twoNumbersNeedABlank();
        everyLetterAtEveryPlace();
        theEndIsAtTheTextsLength();
        theFirstLetterThatHasAFault();
        ofTheseTheLeast();
        emptyTextIsNoTrip();
        blanksAloneAreNoTrip();
        textIsEmptyBehindATrip();
        nothingOfTheFormerTextIsRead();
        aTripBeginsAnew();
        fewerCordsAndRoadsThanBefore();
        aFaultLeavesAllAsItWas();
        milesOfAllRoads();
        faultIsOfTheLatestTrip();
        report("TextTest");
    }

    /** A text and the FAULT that is due, on a new object. */
    static void fault(String text, int number, int letter) {
        RoofMattress x = new RoofMattress();
        due("trip() of '" + text + "'", tell(x, text), -10 - number);
        due("fault() of '" + text + "'", x.fault(), letter);
        due("no TRIP by '" + text + "'", x.highest(0), NOT);
        due("THE TEXT is empty behind '" + text + "'", x.told(5), 0);
    }

    static void noFault(String text, int miles) {
        RoofMattress x = new RoofMattress();
        due("trip() of '" + text + "'", tell(x, text), miles);
        due("fault() of '" + text + "'", x.fault(), NONE);
    }

    /** THE TEXT with blanks ahead of it, till it has so many letters. */
    static String padded(String text, int letters) {
        return " ".repeat(letters - text.length()) + text;
    }

    static void lettersAreZeroTo255() {
        bounds("2: feed", v -> new RoofMattress().feed(v), 0, 255, OUTSIDE);
        RoofMattress x = new RoofMattress();
        due("2: how many, letter 0 counts", x.feed(0), 1);
        due("2: OUTSIDE below", x.feed(-1), OUTSIDE);
        due("2: OUTSIDE above", x.feed(256), OUTSIDE);
        due("2: what is refused does not count", x.told(5), 1);
        due("2: how many, letter 255 counts", x.feed(255), 2);
        // 'l' and 256: a letter is not taken by what is left over
        due("2: OUTSIDE", x.feed('l' + 256), OUTSIDE);
    }

    static void twoHundredLettersAtMost() {
        RoofMattress x = new RoofMattress();
        String text = padded(SMALL, FULL_TEXT);
        for (int i = 0; i < FULL_TEXT - 1; i++) x.feed(text.charAt(i));
        due("2: 199 letters", x.told(5), 199);
        due("2: the 200th", x.feed(text.charAt(199)), 200);
        due("2: the 201st is FULL", x.feed('x'), FULL);
        due("2: OUTSIDE ahead of FULL", x.feed(-1), OUTSIDE);
        due("2: OUTSIDE ahead of FULL", x.feed(256), OUTSIDE);
        due("2: 200 still", x.told(5), 200);
        due("3: 200 letters are read, no 201st", x.trip(), 5);
        due("4: no FAULT", x.fault(), NONE);
        due("2: from 1 on again", x.feed('l'), 1);
        fault("l" + " ".repeat(199), 1, 200);
        fault(padded("l1 1 0;;", FULL_TEXT), 1, 199);
        fault(padded("l1 1 0;c0 0 0", FULL_TEXT), 1, 200);
        fault(padded("l1 1 0;c0 0 1000", FULL_TEXT), 2, 196);
    }

    /** The NUMBER stands between both texts; as told() or so answers it. */
    static void number(String ahead, String behind, int least, int most, java.util.function.ToIntFunction<RoofMattress> told) {
        int letter = ahead.length();
        for (int v : new int[] {least, most}) {
            due("1: " + ahead + v + behind, told.applyAsInt(on(ahead + v + behind)), v);
            String three = String.format("%03d", v);
            due("1: " + ahead + three + behind, told.applyAsInt(on(ahead + three + behind)), v);
            fault(ahead + "0" + three + behind, 2, letter);
        }
        if (least > 0) {
            fault(ahead + (least - 1) + behind, 2, letter);
            fault(ahead + "0" + behind, 2, letter);
            fault(ahead + "000" + behind, 2, letter);
        }
        fault(ahead + "-1" + behind, 1, letter);
        fault(ahead + (most + 1) + behind, 2, letter);
        if (most < 999) fault(ahead + "999" + behind, 2, letter);
        // 2 to the 32 and the least: no value is taken by what is left over
        fault(ahead + (4294967296L + least) + behind, 2, letter);
        fault(ahead + "1000" + behind, 2, letter);
    }

    static void numbersKeepToTheirBounds() {
        number("l", " 1 0;", 1, 99, x -> x.told(0));
        number("l1 ", " 0;", 1, 40, x -> x.told(1));
        number("l1 1 ", ";", 0, 999, x -> x.told(2));
        number("l1 1 0;c", " 0 0;", 0, 3, x -> x.cord(0, 0));
        number("l1 1 0;c0 ", " 0;", 0, 99, x -> x.cord(0, 1));
        number("l1 1 0;c0 0 ", ";", 0, 9, x -> x.cord(0, 2));
        number("l1 1 0;r", " 10 0;", 1, 20, x -> x.road(0, 0));
        number("l1 1 0;r1 ", " 0;", 10, 70, x -> x.road(0, 1));
        number("l1 1 0;r1 10 ", ";", 0, 30, x -> x.road(0, 2));
        // the bounds are those of each clause, not of the first of its kind alone
        fault("l1 1 0;c0 0 0;c4 0 0;", 2, 15);
        fault("l1 1 0;c0 0 0;c0 0 0;c0 0 0;c0 0 10;", 2, 33);
        fault("l1 1 0;r1 10 0;r21 10 0;", 2, 16);
    }

    static void numbersHaveOneToThreeFigures() {
        noFault("l1 1 0;", 0);
        noFault("l01 01 00;", 0);
        noFault("l001 001 000;", 0);
        fault("l0001 1 0;", 2, 1);
        fault("l1 0001 0;", 2, 3);
        fault("l1 1 0000;", 2, 5);
        fault("l00000000000000000000000000000001 1 0;", 2, 1);
        fault("l 1 1;", 1, 5);
        fault("l;", 1, 1);
        fault("l1 1 ;", 1, 5);
    }

    static void loadIsFirstAndOnce() {
        fault("c0 0 0;", 1, 0);
        fault("r1 10 0;", 1, 0);
        fault("  c0 0 0;" + LOAD, 1, 2);
        fault(";" + LOAD, 1, 0);
        fault("0", 1, 0);
        fault(LOAD + LOAD, 3, 7);
        fault(LOAD + "  l", 3, 9);
        fault(LOAD + "c0 0 0;r1 10 0;" + LOAD, 3, 22);
        RoofMattress x = on(SMALL);
        due("1: 'l' once in each text", tell(x, SMALL), 5);
    }

    static void fourCordsAtMost() {
        String four = LOAD + "c0 10 1;c1 11 2;c2 12 3;c3 13 4;";
        RoofMattress x = on(four);
        due("1: 4 CORDS", x.told(3), 4);
        for (int c = 0; c < 4; c++) cord("1: numbers from 0 on, as they come", x, c, c, 10 + c, 1 + c, 10 + c, 0);
        due("6: a fifth there is not", x.cord(4, 0), UNKNOWN);
        fault(four + "c0 0 0;", 3, 39);
        fault(four + " c", 3, 40);
        fault(four + "c9 9 9", 3, 39);
        noFault(four + "r1 10 0;", 1);
        RoofMattress y = on(LOAD);
        due("1: no CORD is fine", y.told(3), 0);
        due("6: none is there", y.cord(0, 0), UNKNOWN);
    }

    static void sixRoadsAtMost() {
        String six = LOAD + "r1 10 0;r2 11 1;r3 12 2;r4 13 3;r5 14 4;r6 15 5;";
        RoofMattress x = on(six);
        due("1: 6 ROADS", x.told(4), 6);
        for (int r = 0; r < 6; r++) {
            due("7: M", x.road(r, 0), 1 + r);
            due("7: P", x.road(r, 1), 10 + r);
            due("7: U", x.road(r, 2), r);
        }
        due("7: a seventh there is not", x.road(6, 0), UNKNOWN);
        fault(six + "r1 10 0;", 3, 55);
        fault(six + " r", 3, 56);
        fault(six + "r0 0 99", 3, 55);
        noFault(six + "c0 0 0;", 21);
        due("7: none is there", on(LOAD).road(0, 0), UNKNOWN);
        due("1: no ROAD is fine", on(LOAD).told(4), 0);
    }

    static void wordsAreOneLetter() {
        fault("ll1 1 0;", 1, 1);
        fault("load 1 1 0;", 1, 1);
        fault(LOAD + "cc0 0 0;", 1, 8);
        fault(LOAD + "cr0 0 0;", 1, 8);
        fault(LOAD + "C0 0 0;", 1, 7);
        fault(LOAD + "R1 10 0;", 1, 7);
        fault("L1 1 0;", 1, 0);
    }

    static void blanksMayStandAnywhereButWithinNumbers() {
        noFault("l10 4 7;c0 20 1;r2 20 0;", 2);
        noFault("  l  10  4  7  ;  c  0  20  1  ;  r  2  20  0  ;  ", 2);
        noFault("l10 4 7 ;c 0 20 1;r2 20 0;", 2);
        RoofMattress x = on(" l 10  4 7 ; ");
        told("1: blanks", x, 10, 4, 7);
        // 1 and 0 are two NUMBERS: 0 is no AREA
        fault("l1 0 4 7;", 2, 3);
        fault("l10 4 7 7;", 1, 8);
        for (int other : new int[] {0, 9, 10, 11, 12, 13, 31, 33, 160}) {
            fault("l10" + (char) other + "4 7;", 1, 3);
            fault((char) other + LOAD, 1, 0);
            fault(LOAD + (char) other, 1, 7);
        }
    }

    static void twoNumbersNeedABlank() {
        fault("l104 7;", 2, 1);
        fault("l10 47;", 2, 4);
        fault("l10 40;", 1, 6);
        fault("l1040;", 2, 1);
        noFault("l10 40 7;", 0);
    }

    /** Each of the 256 letters, at each kind of place, with nothing behind it. */
    static void everyLetterAtEveryPlace() {
        for (int letter = 0; letter <= 255; letter++) {
            boolean figure = letter >= '0' && letter <= '9';
            char ch = (char) letter;
            if (ch == ' ') noFault("" + ch, 0);
            else fault("" + ch, 1, ch == 'l' ? 1 : 0);
            if (ch == ' ') noFault(LOAD + ch, 0);
            else if (ch == 'l') fault(LOAD + ch, 3, 7);
            else fault(LOAD + ch, 1, ch == 'c' || ch == 'r' ? 8 : 7);
            if (ch == '0') fault("l" + ch, 2, 1);
            else fault("l" + ch, 1, figure || ch == ' ' ? 2 : 1);
            fault("l1" + ch, 1, figure || ch == ' ' ? 3 : 2);
            if (ch == '0') fault("l1 " + ch, 2, 3);
            else fault("l1 " + ch, 1, figure || ch == ' ' ? 4 : 3);
            if (ch == ';') noFault("l1 1 0" + ch, 0);
            else fault("l1 1 0" + ch, 1, figure || ch == ' ' ? 7 : 6);
            if (ch == ';') noFault("l1 1 0 " + ch, 0);
            else fault("l1 1 0 " + ch, 1, ch == ' ' ? 8 : 7);
        }
    }

    static void theEndIsAtTheTextsLength() {
        fault("l", 1, 1);
        fault("l1", 1, 2);
        fault("l1 1 0", 1, 6);
        fault("l1 1 0   ", 1, 9);
        fault(LOAD + "c", 1, 8);
        fault(LOAD + "c0 0 0", 1, 13);
        fault(LOAD + "r1 10", 1, 12);
        fault("   l   ", 1, 7);
    }

    static void theFirstLetterThatHasAFault() {
        fault("l0 41 1000;", 2, 1);
        fault("l1 41 1000;", 2, 3);
        fault("l1 1 1000;x", 2, 5);
        fault(LOAD + "xc4 0 0;", 1, 7);
        fault("l100x", 2, 1);
        fault("l100", 2, 1);
        fault("l1000", 2, 1);
        fault("l99x", 1, 3);
        fault(LOAD + "c4 0 0;l", 2, 8);
        fault(LOAD + "l0 0 0;c4", 3, 7);
        fault(LOAD + "c0 0 0;c0 0 0;c0 0 0;c0 0 0;c4", 3, 35);
        fault(LOAD + "c0 0 0;c0 0 0;c0 0 0;c0 0 10;c0", 2, 33);
    }

    static void ofTheseTheLeast() {
        // a NUMBER that is too long, where none can stand
        fault("1000", 1, 0);
        fault("l1 1 0 1000;", 1, 7);
        fault(LOAD + "1000", 1, 7);
        // 'l' again, a fifth 'c', a seventh 'r', where none can stand
        fault("l1l", 1, 2);
        fault(LOAD + "cl", 1, 8);
        fault(LOAD + "c0 0 0;c0 0 0;c0 0 0;c0 0 0;r1c", 1, 37);
        fault(LOAD + "r1 10 0;r1 10 0;r1 10 0;r1 10 0;r1 10 0;r1 10 0;c0r", 1, 57);
    }

    static void emptyTextIsNoTrip() {
        RoofMattress x = new RoofMattress();
        due("3: an empty text", x.trip(), 0);
        due("4: no FAULT", x.fault(), NONE);
        due("1: no TRIP", x.highest(0), NOT);
        x = lostOne();
        x.keep(0);
        x.pick();
        x.see(0, 50, 0, true);
        x.write(0, 1);
        x.seed(9);
        due("3: an empty text", x.trip(), 0);
        told("1: no TRIP any more", x, 0, 0, 0, 0, 0, 0, 0, 0, NONE, 0, 0, 0, 0, 0, 0);
        due("8: NOT", x.lift(0, 0, 0), NOT);
        due("9: NOT", x.drive(1, 10), NOT);
        due("10: NOT", x.stop(), NOT);
        due("11: NOT", x.rain(1), NOT);
        due("13: NOT", x.pick(), NOT);
        due("15: nothing to undo", x.undo(1), NOT);
        due("16: NOT", x.highest(0), NOT);
        due("6: no CORD", x.cord(0, 0), UNKNOWN);
        due("7: no ROAD", x.road(0, 0), UNKNOWN);
        due("33: IMAGES are gone", x.goBack(0), NOT);
        due("3: THE SEED stays", x.seed(0), 9);
        due("3: a TRIP again", tell(x, SMALL), 5);
        tell(x, "l1 1 0");
        due("4: a FAULT", x.fault(), 6);
        due("3: an empty text", x.trip(), 0);
        due("4: none any more", x.fault(), NONE);
    }

    static void blanksAloneAreNoTrip() {
        noFault(" ", 0);
        noFault(" ".repeat(FULL_TEXT), 0);
        RoofMattress x = on(SMALL);
        due("3: blanks alone", tell(x, "   "), 0);
        due("1: no TRIP", x.highest(0), NOT);
    }

    static void textIsEmptyBehindATrip() {
        RoofMattress x = new RoofMattress();
        feedAll(x, LOAD);
        due("5: letters", x.told(5), 7);
        due("3: trip", x.trip(), 0);
        due("3: empty then", x.told(5), 0);
        due("2: from 1 on", x.feed('c'), 1);
        due("3: nothing of the former text is left", x.trip(), -11);
        due("3: empty with a FAULT, too", x.told(5), 0);
        due("2: from 1 on", x.feed('l'), 1);
    }

    /** A text ends at its length, whatever stood there in a longer one before it. */
    static void nothingOfTheFormerTextIsRead() {
        String former = "l1 1 0;r5 10 0;c0 1 1;";
        int[][] ends = {{1, 1}, {2, 2}, {5, 5}, {6, 6}, {8, 8}, {12, 12}, {13, 13}, {14, 14}, {21, 21}};
        for (int[] end : ends) {
            RoofMattress x = on(former);
            due("3: the first " + end[0] + " letters", tell(x, former.substring(0, end[0])), -11);
            due("4: the end", x.fault(), end[1]);
        }
        for (int n = 1; n <= former.length(); n++) {
            RoofMattress x = on(former);
            RoofMattress anew = new RoofMattress();
            String text = former.substring(0, n);
            due("3: '" + text + "' as on a new object", tell(x, text), tell(anew, text));
            due("4: '" + text + "' as on a new object", x.fault(), anew.fault());
        }
        RoofMattress y = on("l9 9 9;r5 10 0;");
        due("3: blanks where figures were", tell(y, "l9 9   "), -11);
        due("4: the end", y.fault(), 7);
        due("3: a FAULT, then the text itself", tell(y, "l1 1 0;"), 0);
        due("4: NONE", y.fault(), NONE);
    }

    static void aTripBeginsAnew() {
        RoofMattress x = lostOne();
        x.rain(5);
        x.keep(0);
        x.keep(1);
        x.pick();
        x.runs(1, 3);
        x.drive(1, 10);
        x.see(0, 50, 0, true);
        x.write(0, 1);
        x.seed(77);
        due("3: another TRIP", tell(x, "l20 5 8;c3 30 3;r1 30 3;"), 1);
        told("3: 0 MILES, SECONDS, HARMS, nothing SEEN, no BOOK", x, 20, 5, 8, 1, 1, 0, 0, 1, 0, 0, 0, 0, 0, 0, 0);
        cord("2: TIGHT as told at first, 0 MILES since", x, 0, 3, 30, 3, 30, 0);
        due("3: CORDS of before are gone", x.cord(1, 0), UNKNOWN);
        due("3: ROADS of before are gone", x.road(1, 0), UNKNOWN);
        due("3: nothing can be undone", x.undo(1), NOT);
        due("3: IMAGE 0 is gone", x.goBack(0), NOT);
        due("3: IMAGE 1 is gone", x.goBack(1), NOT);
        due("3: THE SEED stays", x.seed(0), 77);
        due("26: nothing SEEN", x.was(0, 0), 100);
        due("29: no BOOK", x.judge(), NONE);
    }

    /** What a former TRIP had more of holds nothing, lifts nothing and is no MILE. */
    static void fewerCordsAndRoadsThanBefore() {
        RoofMattress x = on("l99 1 9;c0 99 9;c1 99 9;c2 99 9;c3 99 9;r20 70 30;r20 70 30;r20 70 30;");
        x.drive(3, 10);
        x.runs(3, 0);
        due("3: one CORD, one ROAD", tell(x, "l2 4 0;c0 3 0;r2 10 0;"), 2);
        due("2: HOLD at the FRONT", x.lift(0, 0, 2), 1 + 3);
        due("2: HOLD at the BACK", x.lift(0, 0, 3), 1);
        // 1 at the BACK bears 3 (2 and 1): up to 19
        due("16: HIGHEST", x.highest(0), 19);
        due("18: FAR", x.far(20, 0), 0);
        due("20: SECONDS", x.soonest(1), 720);
        // over the middle 2 and 3 bear 4 (2 and 2), at 22
        due("21: WHERE", x.where(0, NONE), 22);
        due("21: the way", x.where(0, 0), 1);
        due("21: no second CORD", x.where(0, 1), UNKNOWN);
        due("24: KNOTS of one CORD", x.knots(1, 50), 500000000);
        due("9: two MILES", x.drive(30, 10), 2);
        due("3: no CORD at all", tell(x, "l2 4 0;"), 0);
        due("2: HOLD at the FRONT", x.lift(0, 0, 2), 1);
        due("2: HOLD at the BACK", x.lift(0, 0, 3), 1);
        due("21: WHERE without CORDS", x.where(0, NONE), 17);
        due("24: KNOTS of none", x.knots(1, 50), 1000000000);
    }

    static void aFaultLeavesAllAsItWas() {
        for (String bad : new String[] {"x", "l0 1 0;", LOAD + LOAD, "l99 40 999;c3 99 9;r20 70 30;x"}) {
            RoofMattress x = lostOne();
            x.rain(5);
            x.keep(0);
            x.pick();
            x.runs(1, 3);
            x.drive(1, 10);
            x.see(0, 60, 0, false);
            x.write(1, 8);
            x.seed(77);
            tell(x, bad);
            told("3: all is as it was", x, 15, 4, 7, 2, 2, 0, 3, 2, 1, 360 + 14 + 7 + 360, 1, 0, 1, 1, 3);
            cord("3: all is as it was", x, 0, 0, 20, 1, 18, 1);
            cord("3: all is as it was", x, 1, 3, 8, 2, 4, 1);
            due("3: all is as it was", x.road(1, 2), 5);
            due("3: all is as it was", x.judge(), 0);
            due("3: what could be undone still can", x.undo(3), 2);
            due("3: LOST again", x.told(11), 1);
            due("3: IMAGE 0 is there", x.goBack(0), 1);
            due("3: IMAGE 1 was not", x.goBack(1), NOT);
        }
    }

    static void milesOfAllRoads() {
        noFault(LOAD, 0);
        noFault(LOAD + "r1 10 0;", 1);
        noFault(LOAD + "r20 10 0;r20 10 0;r20 10 0;r20 10 0;r20 10 0;r20 10 0;", 120);
        noFault(LOAD + "r20 10 0;r20 10 0;r20 10 0;r20 10 0;r20 10 0;r19 10 0;", 119);
    }

    static void faultIsOfTheLatestTrip() {
        RoofMattress x = new RoofMattress();
        due("4: no trip() yet", x.fault(), NONE);
        feedAll(x, "xx");
        due("4: not by letters alone", x.fault(), NONE);
        x.trip();
        due("4: the first letter is 0", x.fault(), 0);
        feedAll(x, LOAD + "y");
        due("4: the latest still", x.fault(), 0);
        x.trip();
        due("4: the latest", x.fault(), 7);
        tell(x, LOAD);
        due("4: NONE behind a text without", x.fault(), NONE);
    }
}
