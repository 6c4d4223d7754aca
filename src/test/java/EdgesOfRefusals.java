import java.util.ArrayList;
import java.util.List;
import java.util.function.ToLongFunction;

/** Which STATUS a refused call has, and that it changes nothing else. */
final class EdgesOfRefusals extends Edges {
    private static final int FAR = Integer.MAX_VALUE;
    private static final String TOWN = "place p;place q;vane a teeth 8 at p stiff 2 points 7;vane b teeth 9 at q;vane c teeth 7 at q points 3;"
            + "vane d teeth 60 at p;gear g of a b slack 3;belt h of b c slack 2;belt i of a c slack 9;";

    private EdgesOfRefusals() {
    }

    static void all() {
        edge(2, "STATUS of a call is the first of these that holds: 1 a number that can't be; no such TRAY, PLACE, VANE, SHAFT; a set with others.");
        ofTrays();
        ofTexts();
        ofDoing();
        ofJoins();
        ofAhead();
        ofWhatMayBe();
        ofRuns();
        ofMarks();
        edge(2, "0 else.");
        VaneTown x = rich();
        refuses(x, "a refused call", x.told(6), 1);
        gives(x, "one that is not", x.told(5), 2);
        edge(1, "The constants: `NONE = -1`: None.");
        due("NONE", VaneTown.NONE, -1);
    }

    /** An object of which every part has something to lose. */
    private static VaneTown rich() {
        VaneTown x = Check.town(TOWN);
        x.wind(0, 5, 30);
        x.mark();
        x.wind(1, 11, 20);
        x.turn(0, 4);
        x.pass(3);
        x.mark();
        x.turn(1, -2);
        x.lift(1, true);
        x.hold(1, true);
        Check.orders(x, "turn a 3;wait 2;gust 9;wait 1;");
        x.run(77);
        x.tray(0, 0, 2);
        x.write(0, 1, -5);
        x.tray(1, 1, 3);
        x.write(1, 0, 12345);
        x.tray(2, 3, 0);
        x.ratio(0, 2);
        Check.orders(x, "stop;wait 0;");
        Check.feed(x, "hold a;hold b;      turn d 5;");
        return x;
    }

    /** All that can be told of an object; it is used up by it. */
    private static List<Long> all(VaneTown x) {
        List<Long> all = new ArrayList<>();
        all.add(x.top());
        all.add(x.bottom());
        all.add((long) x.fault(0));
        all.add((long) x.fault(1));
        for (int tray = 0; tray < 4; tray++) {
            for (int place = 0; place < 4; place++) {
                all.add(x.read(tray, place));
                all.add((long) x.status());
            }
        }
        for (int what = 0; what < 5; what++) {
            all.add((long) x.ran(what));
        }
        for (int v = 0; v < 8; v++) {
            all.add((long) x.ranTo(v));
        }
        all.add((long) x.feed(0x73746f70, 0x3b737461, 0x79, 0, 0));
        for (int mark = 0; mark < 3; mark++) {
            town(x, all);
            all.add((long) x.run(9));
            all.add((long) x.ran(1));
            all.add((long) x.back());
        }
        all.add((long) x.orders(20));
        all.add((long) x.run(0));
        return all;
    }

    private static void town(VaneTown x, List<Long> all) {
        for (int what = 0; what < 6; what++) {
            all.add((long) x.told(what));
            for (int v = 0; v < 4; v++) {
                all.add((long) x.vane(v, what));
            }
            for (int s = 0; s < 3; s++) {
                all.add((long) x.shaft(s, what));
            }
        }
        for (int p = 0; p < 2; p++) {
            all.add((long) x.windAt(p, 0));
            all.add((long) x.windAt(p, 1));
        }
    }

    /** A call of the rich object is refused so, and leaves all as in one of which it was not asked. */
    private static void no(int promise, String call, int status, ToLongFunction<VaneTown> of) {
        no(promise, call, status, x -> { }, of);
    }

    private interface Preparing {
        void prepare(VaneTown x);
    }

    private static void no(int promise, String call, int status, Preparing by, ToLongFunction<VaneTown> of) {
        edge(promise, "With another STATUS than 0 a call gives NONE, or false, and changes nothing else "
                + "(but village(), orders() with 9 the tape, and what fault() tells).");
        VaneTown x = rich();
        VaneTown y = rich();
        by.prepare(x);
        by.prepare(y);
        refuses(x, call, of.applyAsLong(x), status);
        List<Long> got = all(x);
        List<Long> want = all(y);
        for (int i = 0; i < want.size(); i++) {
            due(call + " leaves all as it is, " + i, got.get(i), want.get(i));
        }
    }

    private static void ofTrays() {
        no(5, "tray(4, 0, 0)", 1, x -> asNumber(x.tray(4, 0, 0)));
        no(5, "tray(-1, 0, 0)", 1, x -> asNumber(x.tray(-1, 0, 0)));
        no(5, "tray(0, 4, 0)", 1, x -> asNumber(x.tray(0, 4, 0)));
        no(5, "tray(0, -1, 0)", 1, x -> asNumber(x.tray(0, -1, 0)));
        no(5, "tray(0, 0, 61)", 1, x -> asNumber(x.tray(0, 0, 61)));
        no(5, "tray(3, 0, -1)", 1, x -> asNumber(x.tray(3, 0, -1)));
        edge(6, "2 the TRAY is MISSING.");
        no(6, "write(4, 0, 7)", 1, x -> asNumber(x.write(4, 0, 7)));
        no(6, "write(3, 9, 7)", 2, x -> asNumber(x.write(3, 9, 7)));
        edge(6, "3 a place that the TRAY has not, or too few numbers.");
        no(6, "write(0, 2, 7)", 3, x -> asNumber(x.write(0, 2, 7)));
        no(6, "write(0, -1, 7)", 3, x -> asNumber(x.write(0, -1, 7)));
        no(7, "read(4, 0)", 1, x -> x.read(4, 0));
        no(7, "read(3, 0)", 2, x -> x.read(3, 0));
        no(7, "read(2, 0)", 3, x -> x.read(2, 0));
        no(8, "pour(0, 0, 4, 0, 1)", 1, x -> asNumber(x.pour(0, 0, 4, 0, 1)));
        no(8, "pour(0, -1, 0, 0, 1)", 1, x -> asNumber(x.pour(0, -1, 0, 0, 1)));
        no(8, "pour(0, 0, 3, 0, 1)", 2, x -> asNumber(x.pour(0, 0, 3, 0, 1)));
        edge(8, "8 TRAYS are of unlike sorts.");
        no(8, "pour(0, 0, 1, 0, 1)", 8, x -> asNumber(x.pour(0, 0, 1, 0, 1)));
        no(8, "pour(1, 2, 1, 0, 2)", 3, x -> asNumber(x.pour(1, 2, 1, 0, 2)));
        no(8, "pour(0, 0, 0, 1, 2)", 3, x -> asNumber(x.pour(0, 0, 0, 1, 2)));
    }

    private static void ofTexts() {
        no(10, "village(-1)", 1, x -> x.village(-1));
        no(10, "village(41)", 1, x -> x.village(41));
        no(11, "orders(-1)", 1, x -> x.orders(-1));
        no(11, "orders(41)", 1, x -> x.orders(41));
        no(11, "orders(301)", 1, x -> Check.feed(x, " ".repeat(300)), x -> x.orders(301));
        textsWithFaults();
        no(13, "told(6)", 1, x -> x.told(6));
        no(14, "vane(4, 0)", 1, x -> x.vane(4, 0));
        no(14, "vane(0, 6)", 1, x -> x.vane(0, 6));
        no(15, "shaft(3, 0)", 1, x -> x.shaft(3, 0));
        no(15, "shaft(0, 5)", 1, x -> x.shaft(0, 5));
        edge(16, "6 there is none such.");
        no(16, "wants(4)", 1, x -> x.wants(4));
        no(16, "wants(0) at calm", 6, x -> x.wind(0, 0, 0), x -> x.wants(0));
        no(17, "right(4)", 1, x -> x.right(4));
    }

    /** With STATUS 9 the tape is empty then, and fault() tells it: nothing else is changed. */
    private static void textsWithFaults() {
        edge(10, "9 a FAULT.");
        VaneTown x = rich();
        VaneTown y = rich();
        refuses(x, "village(40)", x.village(40), 9);
        gives(y, "an ORDERS' text in place of it", y.orders(7), 1);
        Check.orders(y, "turn a 3;wait 2;gust 9;wait 1;");
        due("the FAULT", x.fault(0), 2);
        due("its place", x.fault(1), 0);
        List<Long> got = all(x);
        List<Long> want = all(y);
        for (int i = 4; i < want.size(); i++) {
            due("village() with 9 leaves all but the tape, " + i, got.get(i), want.get(i));
        }
        edge(11, "(but village(), orders() with 9 the tape, and what fault() tells).");
        x = rich();
        refuses(x, "orders(22)", x.orders(22), 9);
        due("the FAULT", x.fault(0), 2);
        due("its place", x.fault(1), 20);
        got = all(x);
        for (int i = 4; i < want.size(); i++) {
            due("orders() with 9 leaves all but the tape, " + i, got.get(i), want.get(i));
        }
    }

    private static void ofDoing() {
        no(18, "wind(2, 0, 0)", 1, x -> asNumber(x.wind(2, 0, 0)));
        no(18, "wind(0, 16, 0)", 1, x -> asNumber(x.wind(0, 16, 0)));
        no(18, "wind(0, 0, 100)", 1, x -> asNumber(x.wind(0, 0, 100)));
        no(19, "windAt(2, 0)", 1, x -> x.windAt(2, 0));
        no(20, "lift(3, true)", 1, x -> asNumber(x.lift(3, true)));
        no(20, "lift(-1, false)", 1, x -> asNumber(x.lift(-1, false)));
        no(21, "hold(4, true)", 1, x -> asNumber(x.hold(4, true)));
        no(21, "hold(-1, false)", 1, x -> asNumber(x.hold(-1, false)));
        no(22, "pass(0)", 1, x -> x.pass(0));
        no(22, "pass(100)", 1, x -> x.pass(100));
        edge(22, "4 one too many.");
        no(22, "pass(99) to 10,000", 4, x -> {
            for (int i = 0; i < 100; i++) {
                x.pass(99);
            }
        }, x -> x.pass(99));
        no(23, "turn(4, 1)", 1, x -> x.turn(4, 1));
        no(23, "turn(0, 0)", 1, x -> x.turn(0, 0));
        no(23, "turn(0, 100)", 1, x -> x.turn(0, 100));
        edge(24, "7 it can't be.");
        no(24, "drags(0, 2)", 1, x -> x.drags(0, 2));
        no(24, "drags(1, 1), held", 7, x -> x.drags(1, 1));
    }

    private static void ofJoins() {
        no(25, "joined(4)", 1, x -> x.joined(4));
        no(26, "ratio(0, 4)", 1, x -> asNumber(x.ratio(0, 4)));
        no(26, "ratio(0, 3)", 7, x -> asNumber(x.ratio(0, 3)));
        no(28, "common(0)", 1, x -> x.common(0));
        no(28, "common(16)", 1, x -> x.common(16));
        no(29, "sway(-1, 0)", 1, x -> x.sway(-1, 0));
        no(29, "sway(3, 0)", 7, x -> x.sway(3, 0));
    }

    private static void still(VaneTown x) {
        x.wind(0, 0, 0);
        x.wind(1, 0, 0);
    }

    private static void ofAhead() {
        no(30, "points(4, 0)", 1, x -> x.points(4, 0));
        no(30, "points(0, 401)", 1, x -> x.points(0, 401));
        no(31, "rights(401)", 1, x -> x.rights(401));
        no(32, "again(2)", 1, x -> x.again(2));
        no(33, "strikes(0, 0)", 1, x -> x.strikes(0, 0));
        no(34, "bell(0, 0)", 1, x -> x.bell(0, 0));
        no(34, "bell(99, 400)", 6, x -> x.bell(99, 400));
        no(35, "wrong(0, 401)", 1, x -> x.wrong(0, 401));
        no(36, "holding(0, 0)", 1, x -> x.holding(0, 0));
        no(37, "helpers(4)", 1, x -> x.helpers(4));
        no(37, "helpers(0) at calm", 6, EdgesOfRefusals::still, x -> x.helpers(0));
        no(37, "helpers(0), held", 7, x -> {
            x.hold(0, true);
            x.wind(0, x.vane(0, 3) == 0 ? 8 : 0, 30);
        }, x -> x.helpers(0));
        no(38, "firstToTurn() at calm", 6, EdgesOfRefusals::still, x -> x.firstToTurn());
        no(39, "heaviest(), all held", 6, x -> {
            for (int v = 0; v < 4; v++) {
                x.hold(v, true);
            }
        }, x -> x.heaviest());
        no(40, "farthest() at calm", 6, EdgesOfRefusals::still, x -> x.farthest());
        no(42, "teeth(0)", 1, x -> x.teeth(0));
        no(42, "teeth(401)", 1, x -> x.teeth(401));
        no(43, "bestWind(0, 0)", 1, x -> x.bestWind(0, 0));
        no(43, "bestWind(1, 401)", 1, x -> x.bestWind(1, 401));
        no(45, "mending(401)", 1, x -> x.mending(401));
        no(45, "mending(400) at calm", 6, EdgesOfRefusals::still, x -> x.mending(400));
    }

    private static void ofWhatMayBe() {
        no(46, "leaving(0)", 1, x -> x.leaving(0));
        no(46, "leaving(100)", 1, x -> x.leaving(100));
        no(47, "knowing(0)", 1, x -> x.knowing(0));
        no(47, "knowing(1), all lifted", 6, x -> {
            for (int s = 0; s < 3; s++) {
                x.lift(s, true);
            }
        }, x -> x.knowing(1));
        edge(48, "5 a number in a TRAY that can't be.");
        no(48, "whole(0, 16)", 1, x -> x.whole(0, 16));
        no(48, "whole(3, 1)", 2, x -> x.whole(3, 1));
        no(48, "whole(1, 1)", 3, x -> x.whole(1, 1));
        no(48, "whole(0, 1) with a tooth below 0", 5, x -> seen(x, -1), x -> x.whole(3, 1));
        no(49, "broken(0, 0)", 1, x -> x.broken(0, 0));
        no(49, "broken(3, 1)", 2, x -> x.broken(3, 1));
        no(49, "broken(1, 1)", 3, x -> x.broken(1, 1));
        no(49, "broken(0, 1) with a tooth too many", 5, x -> seen(x, 60), x -> x.broken(3, 1));
    }

    private static void seen(VaneTown x, int tooth) {
        x.tray(3, 2, 4);
        x.write(3, 3, tooth);
    }

    private static void ofRuns() {
        no(50, "run(-1)", 1, x -> x.run(-1));
        no(50, "run(10000)", 1, x -> x.run(10000));
        no(50, "run(0) without ORDERS", 6, x -> x.village(0), x -> x.run(0));
        no(51, "ran(5)", 1, x -> x.ran(5));
        no(52, "ranTo(8)", 1, x -> x.ranTo(8));
        no(52, "ranTo(4)", 6, x -> x.ranTo(4));
        no(53, "odds(4, 0, 1)", 1, x -> asNumber(x.odds(4, 0, 1)));
        no(53, "odds(0, 0, 21)", 1, x -> asNumber(x.odds(0, 0, 21)));
        no(53, "odds(0, 9999, 2)", 1, x -> asNumber(x.odds(0, 9999, 2)));
        no(53, "odds(0, far, far)", 1, x -> asNumber(x.odds(0, FAR, FAR)));
        no(53, "odds(0, 0, 1) without ORDERS", 6, x -> {
            x.village(0);
            Check.village(x, TOWN);
        }, x -> asNumber(x.odds(0, 0, 1)));
    }

    private static void ofMarks() {
        no(54, "a fourth mark()", 4, x -> {
            x.mark();
            x.turn(3, 9);
        }, x -> x.mark());
        no(55, "back() without marks", 6, x -> {
            x.back();
            x.back();
        }, x -> x.back());
    }
}
