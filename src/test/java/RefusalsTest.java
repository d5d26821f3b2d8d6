import java.util.ArrayList;
import java.util.List;
import java.util.function.Consumer;
import java.util.function.ToIntFunction;

/**
 * 'Terms': of several refusals the first in the document's order, and what is refused changes nothing; what is asked or
 * tried changes nothing either. Each call is made on one of two objects that were used alike; then both must answer
 * alike to all that can be asked, undone and gone back to.
 */
public final class RefusalsTest extends Due {
    record Call(String name, ToIntFunction<RoofMattress> run, int due) { }

    record Scene(String name, Consumer<RoofMattress> play, List<Call> refused) { }

    public static void main(String[] args) {
        for (Scene scene : scenes()) {
            for (Call call : anywhereRefused()) refusedInVain(scene, call);
            for (Call call : scene.refused()) refusedInVain(scene, call);
            for (Call call : asked()) askedInVain(scene, call);
        }
        for (Call call : aboveNineHundredThousand()) refusedAboveNineHundredThousand(call);
        nineHundredThousandIsNotAbove();
        lastCallOfAll();
        report("RefusalsTest");
    }

    // ---- scenes

    static List<Scene> scenes() {
        return List.of(
                new Scene("no TRIP", RefusalsTest::noTrip, noTripRefused()),
                new Scene("no TRIP any more", RefusalsTest::noTripAnyMore, noTripRefused()),
                new Scene("a load alone", RefusalsTest::loadAlone, loadAloneRefused()),
                new Scene("at first", RefusalsTest::atFirst, atFirstRefused()),
                new Scene("on the way", RefusalsTest::onTheWay, onTheWayRefused()),
                new Scene("LOST", RefusalsTest::lost, lostRefused()),
                new Scene("at the end", RefusalsTest::atTheEnd, atTheEndRefused()),
                new Scene("all full", RefusalsTest::allFull, allFullRefused()));
    }

    static void noTrip(RoofMattress x) {
        feedAll(x, "l10 4");
    }

    static void noTripAnyMore(RoofMattress x) {
        tell(x, SMALL);
        x.drive(1, 10);
        x.trip();
        x.seed(5);
        feedAll(x, "l10 4");
    }

    static void loadAlone(RoofMattress x) {
        tell(x, "l10 4 7;");
        x.rain(5);
    }

    static void atFirst(RoofMattress x) {
        tell(x, SMALL);
    }

    static void onTheWay(RoofMattress x) {
        tell(x, SMALL);
        x.seed(77);
        x.rain(3);
        x.keep(0);
        x.drive(1, 20);
        x.drift(1, 20);
        x.stop();
        x.runs(1, 3);
        x.drive(1, 20);
        x.see(0, 50, 0, true);
        x.see(1, 60, 0, false);
        x.write(1, 8);
        x.write(0, 18);
        feedAll(x, "l10 4");
    }

    static void lost(RoofMattress x) {
        tell(x, SMALL);
        x.drive(1, 20);
        x.keep(1);
        x.see(0, 50, 0, true);
        x.drive(5, 70);
    }

    static void atTheEnd(RoofMattress x) {
        tell(x, SMALL);
        x.drive(30, 10);
        x.keep(0);
        x.keep(1);
        x.stop();
    }

    static void allFull(RoofMattress x) {
        tell(x, SMALL);
        x.keep(0);
        for (int i = 0; i < 31; i++) x.rain(1);
        for (int i = 0; i < 6; i++) x.see(i % 2, 10 + i, i, true);
        for (int i = 0; i < 20; i++) x.write(i % 2, i % 2 == 0 ? 20 : 8);
        due("200 letters", feedAll(x, " ".repeat(170) + "l10 4 7;c1 9 9;c2 8 8;r3 33 3;"), 200);
    }

    // ---- what is refused

    /** Refused wherever one is: no scene has more than 2 CORDS and 2 ROADS. */
    static List<Call> anywhereRefused() {
        List<Call> all = new ArrayList<>();
        for (int v : new int[] {-1, 256, LEAST, MOST}) all.add(new Call("feed " + v, x -> x.feed(v), OUTSIDE));
        for (int v : new int[] {-1, 15, LEAST, MOST}) all.add(new Call("told " + v, x -> x.told(v), OUTSIDE));
        for (int v : new int[] {-1, 2, 4, LEAST, MOST}) {
            all.add(new Call("cord " + v, x -> x.cord(v, 0), UNKNOWN));
            all.add(new Call("cord " + v + ", 5", x -> x.cord(v, 5), UNKNOWN));
            all.add(new Call("road " + v, x -> x.road(v, 0), UNKNOWN));
            all.add(new Call("road " + v + ", -1", x -> x.road(v, -1), UNKNOWN));
            all.add(new Call("runs " + v, x -> x.runs(v, 0), UNKNOWN));
            all.add(new Call("runs " + v + ", 4", x -> x.runs(v, 4), UNKNOWN));
            all.add(new Call("slack " + v, x -> x.slack(v, 0), UNKNOWN));
            all.add(new Call("slack " + v + ", 100", x -> x.slack(v, 100), UNKNOWN));
            all.add(new Call("see " + v, x -> x.see(v, 10, 0, true), UNKNOWN));
            all.add(new Call("see " + v + ", 9", x -> x.see(v, 9, 0, false), UNKNOWN));
            all.add(new Call("see " + v + ", 10, 31", x -> x.see(v, 10, 31, true), UNKNOWN));
            all.add(new Call("was " + v, x -> x.was(v, 0), UNKNOWN));
            all.add(new Call("was " + v + ", 3", x -> x.was(v, 3), UNKNOWN));
            all.add(new Call("tries " + v, x -> x.tries(v, 0), UNKNOWN));
            all.add(new Call("tries " + v + ", 31", x -> x.tries(v, 31), UNKNOWN));
            all.add(new Call("write " + v, x -> x.write(v, 0), UNKNOWN));
            all.add(new Call("write " + v + ", 100", x -> x.write(v, 100), UNKNOWN));
            int other = v == -1 ? -2 : v;
            all.add(new Call("where " + other, x -> x.where(0, other), UNKNOWN));
            all.add(new Call("where 31, " + other, x -> x.where(31, other), UNKNOWN));
        }
        for (int v : new int[] {-1, 2, LEAST, MOST}) {
            all.add(new Call("keep " + v, x -> x.keep(v), UNKNOWN));
            all.add(new Call("goBack " + v, x -> x.goBack(v), UNKNOWN));
        }
        deedsOutside(all);
        triedOutside(all);
        return all;
    }

    static void deedsOutside(List<Call> all) {
        for (int v : new int[] {0, 31, -1, LEAST, MOST}) {
            all.add(new Call("drive " + v, x -> x.drive(v, 10), OUTSIDE));
            all.add(new Call("drift " + v, x -> x.drift(v, 10), OUTSIDE));
            all.add(new Call("undo " + v, x -> x.undo(v), OUTSIDE));
        }
        for (int v : new int[] {9, 71, -1, LEAST, MOST}) {
            all.add(new Call("drive 1, " + v, x -> x.drive(1, v), OUTSIDE));
            all.add(new Call("drift 1, " + v, x -> x.drift(1, v), OUTSIDE));
            all.add(new Call("far " + v, x -> x.far(v, 0), OUTSIDE));
            all.add(new Call("stops " + v, x -> x.stops(v, 0), OUTSIDE));
        }
        for (int v : new int[] {0, 100, -1, LEAST, MOST}) all.add(new Call("rain " + v, x -> x.rain(v), OUTSIDE));
        for (int v : new int[] {-1, LEAST}) all.add(new Call("seed " + v, x -> x.seed(v), OUTSIDE));
    }

    static void triedOutside(List<Call> all) {
        for (int v : new int[] {-1, 31, LEAST, MOST}) {
            all.add(new Call("highest " + v, x -> x.highest(v), OUTSIDE));
            all.add(new Call("lift 0, " + v, x -> x.lift(0, v, 0), OUTSIDE));
            all.add(new Call("far 10, " + v, x -> x.far(10, v), OUTSIDE));
            all.add(new Call("where NONE in " + v, x -> x.where(v, NONE), OUTSIDE));
            all.add(new Call("hand 0, " + v, x -> x.hand(0, v), OUTSIDE));
        }
        for (int v : new int[] {-1, 100, LEAST, MOST}) {
            all.add(new Call("lift " + v, x -> x.lift(v, 0, 0), OUTSIDE));
            all.add(new Call("hand " + v, x -> x.hand(v, 0), OUTSIDE));
        }
        for (int v : new int[] {-1, 5, LEAST, MOST}) all.add(new Call("lift 0, 0, " + v, x -> x.lift(0, 0, v), OUTSIDE));
        for (int v : new int[] {-1, 2, LEAST, MOST}) {
            all.add(new Call("stops 10, " + v, x -> x.stops(10, v), OUTSIDE));
            all.add(new Call("soonest " + v, x -> x.soonest(v), OUTSIDE));
        }
        for (int v : new int[] {-1, 1000, LEAST, MOST}) all.add(new Call("van " + v, x -> x.van(v, 0, 0), OUTSIDE));
        for (int v : new int[] {-1, 101, LEAST, MOST}) {
            all.add(new Call("van 0, " + v, x -> x.van(0, v, 0), OUTSIDE));
            all.add(new Call("knots 0, " + v, x -> x.knots(0, v), OUTSIDE));
        }
        for (int v : new int[] {-1, 10000, LEAST, MOST}) all.add(new Call("van 0, 0, " + v, x -> x.van(0, 0, v), OUTSIDE));
        for (int v : new int[] {-1, 61, LEAST, MOST}) all.add(new Call("knots " + v, x -> x.knots(v, 0), OUTSIDE));
    }

    /** Of CORD 0, which is there in some scenes. */
    static List<Call> cordOutside() {
        List<Call> all = new ArrayList<>();
        for (int v : new int[] {-1, 5, LEAST, MOST}) all.add(new Call("cord 0, " + v, x -> x.cord(0, v), OUTSIDE));
        for (int v : new int[] {-1, 3, LEAST, MOST}) {
            all.add(new Call("road 0, " + v, x -> x.road(0, v), OUTSIDE));
            all.add(new Call("was 0, " + v, x -> x.was(0, v), OUTSIDE));
        }
        for (int v : new int[] {-1, 4, LEAST, MOST}) all.add(new Call("runs 0, " + v, x -> x.runs(0, v), OUTSIDE));
        for (int v : new int[] {-1, 100, LEAST, MOST}) {
            all.add(new Call("slack 0, " + v, x -> x.slack(0, v), OUTSIDE));
            all.add(new Call("write 0, " + v, x -> x.write(0, v), OUTSIDE));
        }
        for (int v : new int[] {-1, 31, LEAST, MOST}) {
            all.add(new Call("where 0 in " + v, x -> x.where(v, 0), OUTSIDE));
            all.add(new Call("see 0, 10, " + v, x -> x.see(0, 10, v, true), OUTSIDE));
            all.add(new Call("tries 0, " + v, x -> x.tries(0, v), OUTSIDE));
        }
        for (int v : new int[] {9, 71, LEAST, MOST}) all.add(new Call("see 0, " + v, x -> x.see(0, v, 0, true), OUTSIDE));
        return all;
    }

    static List<Call> noCord() {
        return List.of(
                new Call("cord 0", x -> x.cord(0, 0), UNKNOWN),
                new Call("cord 0, 5", x -> x.cord(0, 5), UNKNOWN),
                new Call("road 0", x -> x.road(0, 0), UNKNOWN),
                new Call("road 0, 3", x -> x.road(0, 3), UNKNOWN),
                new Call("runs 0", x -> x.runs(0, 0), UNKNOWN),
                new Call("runs 0, 4", x -> x.runs(0, 4), UNKNOWN),
                new Call("slack 0", x -> x.slack(0, 0), UNKNOWN),
                new Call("where 0", x -> x.where(0, 0), UNKNOWN),
                new Call("where 0 in 31", x -> x.where(31, 0), UNKNOWN),
                new Call("see 0", x -> x.see(0, 10, 0, true), UNKNOWN),
                new Call("was 0", x -> x.was(0, 0), UNKNOWN),
                new Call("tries 0", x -> x.tries(0, 0), UNKNOWN),
                new Call("write 0", x -> x.write(0, 0), UNKNOWN));
    }

    static List<Call> noTripRefused() {
        List<Call> all = new ArrayList<>(noCord());
        all.addAll(List.of(
                new Call("lift", x -> x.lift(0, 0, 4), NOT),
                new Call("drive", x -> x.drive(1, 10), NOT),
                new Call("stop", x -> x.stop(), NOT),
                new Call("rain", x -> x.rain(1), NOT),
                new Call("pick", x -> x.pick(), NOT),
                new Call("drift", x -> x.drift(1, 10), NOT),
                new Call("undo", x -> x.undo(1), NOT)));
        all.addAll(List.of(
                new Call("highest", x -> x.highest(0), NOT),
                new Call("far", x -> x.far(10, 0), NOT),
                new Call("stops", x -> x.stops(10, 0), NOT),
                new Call("soonest", x -> x.soonest(0), NOT),
                new Call("where", x -> x.where(0, NONE), NOT),
                new Call("hand", x -> x.hand(0, 0), NOT),
                new Call("goBack 0", x -> x.goBack(0), NOT),
                new Call("goBack 1", x -> x.goBack(1), NOT)));
        return all;
    }

    static List<Call> loadAloneRefused() {
        List<Call> all = new ArrayList<>(noCord());
        all.addAll(List.of(
                new Call("drive", x -> x.drive(1, 10), NOT),
                new Call("drift", x -> x.drift(1, 10), NOT),
                new Call("pick", x -> x.pick(), NOT),
                new Call("undo 2", x -> x.undo(2), NOT),
                new Call("undo 30", x -> x.undo(30), NOT),
                new Call("goBack 0", x -> x.goBack(0), NOT)));
        return all;
    }

    static List<Call> atFirstRefused() {
        List<Call> all = new ArrayList<>(cordOutside());
        all.addAll(List.of(
                new Call("pick", x -> x.pick(), NOT),
                new Call("undo", x -> x.undo(1), NOT),
                new Call("goBack 0", x -> x.goBack(0), NOT),
                new Call("goBack 1", x -> x.goBack(1), NOT)));
        return all;
    }

    static List<Call> onTheWayRefused() {
        List<Call> all = new ArrayList<>(cordOutside());
        all.addAll(List.of(
                new Call("pick", x -> x.pick(), NOT),
                new Call("undo 6 of 5", x -> x.undo(6), NOT),
                new Call("undo 30 of 5", x -> x.undo(30), NOT),
                new Call("goBack 1", x -> x.goBack(1), NOT)));
        return all;
    }

    static List<Call> lostRefused() {
        List<Call> all = new ArrayList<>(cordOutside());
        all.addAll(List.of(
                new Call("drive", x -> x.drive(1, 10), NOT),
                new Call("drift", x -> x.drift(1, 10), NOT),
                new Call("stop", x -> x.stop(), NOT),
                new Call("runs", x -> x.runs(0, 1), NOT),
                new Call("runs the same way", x -> x.runs(0, 0), NOT),
                new Call("stops", x -> x.stops(10, 0), NOT),
                new Call("stops", x -> x.stops(10, 1), NOT),
                new Call("soonest", x -> x.soonest(0), NOT),
                new Call("undo 3 of 2", x -> x.undo(3), NOT),
                new Call("goBack 0", x -> x.goBack(0), NOT)));
        return all;
    }

    static List<Call> atTheEndRefused() {
        List<Call> all = new ArrayList<>(cordOutside());
        all.addAll(List.of(
                new Call("drive", x -> x.drive(1, 10), NOT),
                new Call("drift", x -> x.drift(1, 10), NOT),
                new Call("pick", x -> x.pick(), NOT),
                new Call("undo 2 of 1", x -> x.undo(2), NOT)));
        return all;
    }

    static List<Call> allFullRefused() {
        List<Call> all = new ArrayList<>(cordOutside());
        all.addAll(List.of(
                new Call("feed", x -> x.feed(';'), FULL),
                new Call("feed 0", x -> x.feed(0), FULL),
                new Call("see", x -> x.see(0, 10, 0, true), FULL),
                new Call("see", x -> x.see(1, 70, 30, false), FULL),
                new Call("write", x -> x.write(0, 0), FULL),
                new Call("write", x -> x.write(1, 99), FULL),
                new Call("goBack 1", x -> x.goBack(1), NOT)));
        return all;
    }

    // ---- what is asked or tried, with all that is allowed

    static List<Call> asked() {
        List<Call> all = new ArrayList<>();
        all.add(new Call("fault", x -> x.fault(), 0));
        all.add(new Call("judge", x -> x.judge(), 0));
        all.add(new Call("van", x -> x.van(1, 2, 3), 0));
        all.add(new Call("knots", x -> x.knots(60, 50), 0));
        for (int what = 0; what <= 14; what++) {
            int w = what;
            all.add(new Call("told " + w, x -> x.told(w), 0));
            all.add(new Call("cord " + w, x -> x.cord(0, w), 0));
            all.add(new Call("road " + w, x -> x.road(0, w), 0));
            all.add(new Call("lift " + w, x -> x.lift(60, 30, w), 0));
            all.add(new Call("stops " + w, x -> x.stops(70, w), 0));
            all.add(new Call("soonest " + w, x -> x.soonest(w), 0));
            all.add(new Call("was " + w, x -> x.was(0, w), 0));
            all.add(new Call("where " + w, x -> x.where(0, w - 1), 0));
        }
        for (int gust : new int[] {0, 30}) {
            all.add(new Call("highest " + gust, x -> x.highest(gust), 0));
            all.add(new Call("slack " + gust, x -> x.slack(0, gust), 0));
            all.add(new Call("far " + gust, x -> x.far(20, gust), 0));
            all.add(new Call("hand " + gust, x -> x.hand(99, gust), 0));
            all.add(new Call("tries " + gust, x -> x.tries(0, gust), 0));
        }
        return all;
    }

    // ---- two objects, used alike but for one call

    static void refusedInVain(Scene scene, Call call) {
        twins(scene, call.name(), x -> due(scene.name() + ": " + call.name(), call.run().applyAsInt(x), call.due()));
    }

    static void askedInVain(Scene scene, Call call) {
        twins(scene, call.name(), x -> due(scene.name() + ": " + call.name() + " again",
                call.run().applyAsInt(x), call.run().applyAsInt(x)));
    }

    static void twins(Scene scene, String name, Consumer<RoofMattress> more) {
        RoofMattress one = new RoofMattress();
        RoofMattress other = new RoofMattress();
        scene.play().accept(one);
        scene.play().accept(other);
        more.accept(one);
        List<Integer> ones = prints(one);
        List<Integer> others = prints(other);
        due(scene.name() + ": nothing changes by " + name, ones.equals(others) ? 1 : 0, 1);
    }

    /** All that the object answers from now on, as far as it can be asked; the object is used up by it. */
    static List<Integer> prints(RoofMattress x) {
        List<Integer> all = new ArrayList<>();
        printNow(x, all);
        printTried(x, all);
        for (int left = x.told(14); left > 0; left = x.told(14)) {
            // one by one as long as it tells more; all in one behind that, so that 512 calls are enough
            all.add(x.undo(left > 22 || left < 8 ? 1 : left));
            all.add(x.told(9));
            all.add(x.cord(0, 3));
        }
        all.add(x.undo(1));
        for (int image = 0; image < 2; image++) {
            all.add(x.goBack(image));
            printNow(x, all);
        }
        if (x.told(5) < 200) feedAll(x, " 7;c1 9 9;r3 33 3;");
        all.add(x.trip());
        printNow(x, all);
        return all;
    }

    static void printNow(RoofMattress x, List<Integer> all) {
        for (int what = 0; what <= 14; what++) all.add(x.told(what));
        for (int c = 0; c < 2; c++) for (int what = 0; what < 5; what++) all.add(x.cord(c, what));
        all.add(x.road(0, 0));
        all.add(x.road(1, 2));
        all.add(x.fault());
        int seed = x.seed(0);
        all.add(seed);
        x.seed(seed);
    }

    static void printTried(RoofMattress x, List<Integer> all) {
        for (int what = 0; what < 5; what++) all.add(x.lift(50, 5, what));
        for (int c = 0; c < 2; c++) {
            for (int what = 0; what < 3; what++) all.add(x.was(c, what));
            all.add(x.tries(c, 5));
            all.add(x.slack(c, 3));
            all.add(x.where(5, c));
        }
        all.add(x.highest(5));
        all.add(x.stops(70, 0));
        all.add(x.stops(70, 1));
        all.add(x.soonest(1));
        all.add(x.judge());
        all.add(x.knots(3, 3));
    }

    // ---- above 900000 SECONDS, which takes more calls than an object is promised for

    /** 919 times 979 and a MILE of 300 SECONDS are 900001; on ROAD 1 it is LOST at once. */
    static RoofMattress late(boolean lost) {
        RoofMattress x = on("l50 40 979;c0 9 1;r1 12 0;r1 10 30;");
        for (int i = 1; i <= 919; i++) x.stop();
        due("9: a MILE", x.drive(1, 12), 1);
        due("5: SECONDS", x.told(9), 900001);
        due("11: never FULL", x.rain(1), 51);
        due("15: never FULL", x.undo(1), 1);
        if (lost) due("9: never FULL", x.drive(1, 10), 0);
        return x;
    }

    static void nineHundredThousandIsNotAbove() {
        RoofMattress x = on("l1 40 900;c0 0 0;r1 10 30;");
        for (int i = 1; i < 1000; i++) x.stop();
        due("10: 900000", x.stop(), 900000);
        x.keep(0);
        due("10: 900000 is not above", x.stop(), 900900);
        due("10: 900900 is", x.stop(), FULL);
        x.goBack(0);
        due("12: 900000 is not above", x.runs(0, 1), 0);
        due("12: 900900 is", x.runs(0, 1), FULL);
        x.goBack(0);
        x.drive(1, 10);
        due("13: 900000 is not above", x.pick(), 1);
        due("5: SECONDS", x.told(9), 901800);
    }

    static List<Call> aboveNineHundredThousand() {
        return List.of(
                new Call("stop", x -> x.stop(), FULL),
                new Call("runs", x -> x.runs(0, 1), FULL),
                new Call("runs, UNKNOWN ahead of FULL", x -> x.runs(1, 1), UNKNOWN),
                new Call("runs, OUTSIDE ahead of FULL", x -> x.runs(0, 4), OUTSIDE),
                new Call("pick, NOT ahead of FULL", x -> x.pick(), NOT),
                new Call("LOST: pick", x -> x.pick(), FULL),
                new Call("LOST: stop, NOT ahead of FULL", x -> x.stop(), NOT),
                new Call("LOST: runs, NOT ahead of FULL", x -> x.runs(0, 1), NOT),
                new Call("LOST: runs, OUTSIDE ahead of NOT", x -> x.runs(0, 4), OUTSIDE),
                new Call("LOST: runs, UNKNOWN ahead of all", x -> x.runs(1, 4), UNKNOWN));
    }

    static void refusedAboveNineHundredThousand(Call call) {
        boolean lost = call.name().startsWith("LOST");
        RoofMattress one = late(lost);
        due("above 900000: " + call.name(), call.run().applyAsInt(one), call.due());
        due("above 900000: nothing changes by " + call.name(), prints(one).equals(prints(late(lost))) ? 1 : 0, 1);
    }

    /** The document's limit: the 512th call still answers as promised. */
    static void lastCallOfAll() {
        RoofMattress x = on(SMALL);
        int calls = SMALL.length() + 1;
        for (; calls < 511; calls++) x.seed(calls);
        due("the 512th call", x.soonest(1), 644);
    }
}
