import java.util.function.IntUnaryOperator;

/** What the tests share: trips to ask about, and the count of answers that are not as due. */
abstract class Due {
    static final int NONE = -1, UNKNOWN = -1000000001, OUTSIDE = -1000000002, NOT = -1000000003, FULL = -1000000004;
    static final int LEAST = Integer.MIN_VALUE, MOST = Integer.MAX_VALUE;

    /** LIFT is v * v / 100; HOLD 25 and 13, behind MILES 23 and 9, 21 and 5, 19 and 5, 17 and 5. */
    static final String SMALL = "l10 4 7;c0 20 1;c2 8 2;r2 20 0;r3 40 5;";

    private static int asked = 0, wrong = 0;

    static void due(String call, int got, int want) {
        asked++;
        if (got != want) {
            wrong++;
            System.out.println(call + " answered " + got + ", due is " + want);
        }
    }

    static void report(String test) {
        System.out.println(test + ": " + (asked - wrong) + " answers of " + asked + " are as due");
        if (wrong > 0) System.exit(1);
    }

    static boolean isRefusal(int answer) {
        return answer <= UNKNOWN;
    }

    /** The last value on both sides is taken, the first beyond it is refused, and so are the ends of int. */
    static void bounds(String what, IntUnaryOperator call, int least, int most, int refusal) {
        for (int v : new int[] {least, most}) {
            int got = call.applyAsInt(v);
            due(what + " " + v + " is taken (" + got + ")", isRefusal(got) ? 0 : 1, 1);
        }
        due(what + " " + (least - 1L), call.applyAsInt(least - 1), refusal);
        if (least > 0) due(what + " below 0", call.applyAsInt(-1), refusal);
        due(what + " least of int", call.applyAsInt(LEAST), refusal);
        if (most == MOST) return;
        due(what + " " + (most + 1), call.applyAsInt(most + 1), refusal);
        due(what + " most of int", call.applyAsInt(MOST), refusal);
    }

    static int feedAll(RoofMattress x, String text) {
        int n = 0;
        for (char ch : text.toCharArray()) n = x.feed(ch);
        return n;
    }

    static int tell(RoofMattress x, String text) {
        feedAll(x, text);
        return x.trip();
    }

    static RoofMattress on(String text) {
        RoofMattress x = new RoofMattress();
        int miles = tell(x, text);
        if (miles < 0) due("trip() of " + text, miles, 0);
        return x;
    }

    /** LOST behind 2 MILES of SMALL: 13 and 7 against 21 and 5. */
    static RoofMattress lostOne() {
        RoofMattress x = on(SMALL);
        due("drive(5, 70) till LOST", x.drive(5, 70), 2);
        due("told(11) LOST", x.told(11), 1);
        return x;
    }

    static void told(String sentence, RoofMattress x, int... all) {
        for (int what = 0; what < all.length; what++) due(sentence + ": told(" + what + ")", x.told(what), all[what]);
    }

    static void cord(String sentence, RoofMattress x, int c, int... all) {
        for (int what = 0; what < all.length; what++) {
            due(sentence + ": cord(" + c + ", " + what + ")", x.cord(c, what), all[what]);
        }
    }
}
