/** Promises 50 to 53: ORDERS that are run, what came of it, odds. */
public final class OrdersTest {
    private static final String PAIR = "place p;place q;vane a teeth 8 at p;vane b teeth 8 at q;belt h of a b slack 1;";

    public static void main(String[] args) {
        runAsks();
        emptyOrders();
        stepsOne();
        stepsLiftAndHold();
        whenTests();
        loops();
        mostSteps();
        stops();
        gusts();
        nowStays();
        ranStays();
        odds();
        Check.end("OrdersTest");
    }

    private static void ran(VaneTown x, String what, int... want) {
        for (int i = 0; i < want.length; i++) {
            Check.gives(x, what + ": ran(" + i + ")", x.ran(i), want[i]);
        }
    }

    private static void ranTo(VaneTown x, String what, int... want) {
        for (int i = 0; i < want.length; i++) {
            Check.gives(x, what + ": ranTo(" + i + ")", x.ranTo(i), want[i]);
        }
    }

    private static void runAsks() {
        VaneTown x = Check.town(PAIR);
        Check.refuses(x, "no orders", x.run(0), 6);
        Check.refuses(x, "1 ahead of 6", x.run(-1), 1);
        Check.refuses(x, "1 ahead of 6", x.run(10000), 1);
        Check.refuses(x, "ran(-1)", x.ran(-1), 1);
        Check.refuses(x, "ran(5)", x.ran(5), 1);
        Check.refuses(x, "ran(0)", x.ran(0), 6);
        Check.refuses(x, "ranTo(-1)", x.ranTo(-1), 1);
        Check.refuses(x, "ranTo(8)", x.ranTo(8), 1);
        Check.refuses(x, "ranTo(7)", x.ranTo(7), 6);
        Check.refuses(x, "no orders", x.odds(0, 0, 1), 6);
        Check.ordersTaken(x, "stop;", 1);
        Check.gives(x, "seed 9999", x.run(9999), 1);
        Check.refuses(x, "no such vane then", x.ranTo(2), 6);
    }

    private static void emptyOrders() {
        VaneTown x = Check.town(PAIR);
        Check.ordersTaken(x, "", 0);
        Check.gives(x, "an empty text is one that was given", x.run(0), 0);
        ran(x, "empty", 0, 0, 0, 3, 0);
        ranTo(x, "empty", 0, 0);
    }

    private static void stepsOne() {
        VaneTown x = Check.town(PAIR);
        Check.ordersTaken(x, "wind p 4 9;wait 2;", 2);
        Check.gives(x, "run", x.run(0), 2);
        ran(x, "wind", 2, 3, 0, 3, 0);
        ranTo(x, "wind", 2, 1);
        Check.ordersTaken(x, "wind p 4 9;wind q 8 1;wait 99;turn b 7;", 4);
        Check.gives(x, "run", x.run(0), 4);
        // a goes to 2, b to 2 or 3 by its own wind as far as a lets it; by hand b goes on 7 teeth.
        Check.gives(x, "quarters", x.ran(0), 99);
        Check.gives(x, "left", x.ran(4), 0);
        Check.ordersTaken(x, "turn a 8;", 1);
        Check.gives(x, "run", x.run(0), 1);
        ran(x, "turn", 0, 15, 1, 3, 0);
        ranTo(x, "turn", 0, 7);
    }

    private static void stepsLiftAndHold() {
        VaneTown x = Check.town(PAIR);
        Check.ordersTaken(x, "lift h;turn a 4;lower h;turn a 3;", 4);
        Check.gives(x, "run", x.run(0), 4);
        ranTo(x, "lifted for 4, 1 of slack", 7, 2);
        Check.ordersTaken(x, "hold b;turn a 3;free b;turn a 3;", 4);
        Check.gives(x, "run", x.run(0), 4);
        ranTo(x, "held for 1 of 3", 4, 3);
        x.hold(1, true);
        x.lift(0, true);
        Check.ordersTaken(x, "turn a 5;turn b 5;", 2);
        Check.gives(x, "run", x.run(0), 2);
        ranTo(x, "as it is now", 5, 0);
    }

    private static void whenTests() {
        VaneTown x = Check.town("place p;vane a teeth 60 at p points 5;vane b teeth 9 at p;");
        when(x, "points a<5", false);
        when(x, "points a<6", true);
        when(x, "points a>5", false);
        when(x, "points a>4", true);
        when(x, "points a=5", true);
        when(x, "points a=4", false);
        when(x, "points a<60", true);
        when(x, "right a", true);
        x.wind(0, 0, 1);
        when(x, "right a", false);
        when(x, "right b", true);
    }

    private static void when(VaneTown x, String test, boolean is) {
        Check.ordersTaken(x, "when " + test + ";turn b 1;turn b 1;end;turn b 4;", 4);
        Check.gives(x, "when " + test, x.run(0), is ? 4 : 2);
        Check.gives(x, "when " + test, x.ranTo(1), is ? 6 : 4);
    }

    private static void loops() {
        VaneTown x = Check.town("place p;vane a teeth 60 at p;vane b teeth 60 at p;");
        Check.ordersTaken(x, "loop 3;turn a 2;loop 2;turn b 1;end;end;turn a 1;", 5);
        Check.gives(x, "1 + 3 x (1 + 1 + 2) + 1", x.run(0), 14);
        ranTo(x, "loops", 7, 6);
        Check.ordersTaken(x, "loop 99;when points a<3;turn a 1;end;end;", 3);
        Check.gives(x, "1 + 99 + 3", x.run(0), 103);
        ranTo(x, "a when in a loop", 3, 0);
        Check.ordersTaken(x, "loop 99;end;when right a;end;", 2);
        Check.gives(x, "nothing within", x.run(0), 2);
        Check.ordersTaken(x, "when points a=1;loop 9;turn b 1;end;stop;end;turn b 3;", 5);
        Check.gives(x, "all within is left out", x.run(0), 2);
        ranTo(x, "all within", 0, 3);
    }

    private static void mostSteps() {
        VaneTown x = Check.town("place p;vane a teeth 60 at p;");
        String loops = "loop 99;turn a 1;turn a 1;turn a 1;turn a 1;end;";
        Check.ordersTaken(x, loops, 5);
        Check.gives(x, "1 + 99 x 4", x.run(0), 397);
        Check.gives(x, "none left", x.ran(4), 0);
        Check.ordersTaken(x, loops + "wait 1;wait 1;wait 1;", 8);
        Check.gives(x, "just 400", x.run(0), 400);
        ran(x, "just 400", 3, 396, 6, 1, 0);
        Check.ordersTaken(x, loops + "wait 1;wait 1;wait 1;stop;", 9);
        Check.gives(x, "a stop is left", x.run(0), 400);
        Check.gives(x, "a stop is left", x.ran(4), 1);
        Check.ordersTaken(x, "loop 99;loop 99;loop 99;wait 99;end;end;end;", 4);
        Check.gives(x, "cut", x.run(0), 400);
        // 3 loops and 99 waits; then each time a loop and 99 waits: 3 + 99 + 2 x 100 + 1 + 97.
        ran(x, "cut", 99 * (3 * 99 + 97), 0, 0, 1, 1);
        Check.ordersTaken(x, "loop 99;loop 99;loop 99;end;end;end;", 3);
        Check.gives(x, "loops count as they are come to from ahead", x.run(0), 400);
        Check.gives(x, "one is left", x.ran(4), 1);
        Check.ordersTaken(x, loops + "wait 1;wait 1;loop 99;end;", 8);
        Check.gives(x, "ends are no steps", x.run(0), 400);
        Check.gives(x, "nothing but ends is left", x.ran(4), 0);
    }

    private static void stops() {
        VaneTown x = Check.town("place p;vane a teeth 60 at p;");
        Check.ordersTaken(x, "turn a 1;loop 5;when points a>2;stop;end;turn a 1;end;turn a 9;", 6);
        Check.gives(x, "1, loop, when turn, when turn, when stop", x.run(0), 8);
        ranTo(x, "stop", 3);
        Check.gives(x, "nothing is left by a stop", x.ran(4), 0);
    }

    private static void gusts() {
        VaneTown x = Check.town("place p;place q;vane a teeth 16 at p;vane b teeth 16 at q;");
        Check.ordersTaken(x, "gust 5;wait 99;", 2);
        for (int seed = 0; seed < 40; seed += 13) {
            int s = (seed * 2683 + 11587) % 65536;
            int t = (s * 2683 + 11587) % 65536;
            Check.gives(x, "gust", x.run(seed), 2);
            ranTo(x, "gust by " + seed, s / 8 % 16, t / 8 % 16);
        }
        // s is 11,587: by 8 that is 1,448, its rest by 16 is 8; then s is 35,444: 4,430, 14.
        Check.gives(x, "gust", x.run(0), 2);
        ranTo(x, "gust by 0", 8, 14);
        Check.ordersTaken(x, "gust 0;wait 9;gust 1;wait 99;", 4);
        Check.gives(x, "gust 0", x.run(0), 4);
        int s = 0;
        int[] draws = new int[4];
        for (int i = 0; i < 4; i++) {
            s = (s * 2683 + 11587) % 65536;
            draws[i] = s / 8 % 16;
        }
        ranTo(x, "drawn on", draws[2], draws[3]);
        Check.gives(x, "teeth by the second gust alone", x.ran(1), Math.min(draws[2], 16 - draws[2]) + Math.min(draws[3], 16 - draws[3]));
    }

    private static void nowStays() {
        VaneTown x = Check.town(PAIR);
        Check.ordersTaken(x, "wind p 4 9;gust 3;wait 9;turn b 9;lift h;hold a;", 6);
        Check.gives(x, "run", x.run(5), 6);
        Check.takes(x, "odds", x.odds(0, 5, 3));
        Check.gives(x, "quarter", x.told(3), 0);
        Check.gives(x, "lifted", x.told(4), 0);
        Check.gives(x, "held", x.told(5), 0);
        Check.gives(x, "wind", x.windAt(0, 1), 0);
        for (int v = 0; v < 2; v++) {
            for (int what = 3; what <= 5; what++) {
                Check.gives(x, "vane", x.vane(v, what), 0);
            }
        }
        Check.gives(x, "play", x.shaft(0, 4), 0);
    }

    private static void ranStays() {
        VaneTown x = Check.town(PAIR);
        Check.ordersTaken(x, "turn b 3;wait 2;", 2);
        Check.gives(x, "run", x.run(0), 2);
        x.run(-1);
        x.turn(0, 5);
        Check.gives(x, "another village", Check.village(x, "place p;"), 0);
        Check.refuses(x, "no orders", x.run(0), 6);
        ran(x, "of the latest with status 0", 2, 6, 0, 3, 0);
        ranTo(x, "of the vanes then", 3, 3);
        Check.refuses(x, "no such vane then", x.ranTo(2), 6);
        Check.ordersTaken(x, "stop;", 1);
        Check.gives(x, "run", x.run(0), 1);
        Check.refuses(x, "no vane then", x.ranTo(0), 6);
    }

    private static void fraction(VaneTown x, String what, boolean got, long top, long bottom) {
        Check.takes(x, what, got);
        Check.due(what + ": top()", x.top(), top);
        Check.due(what + ": bottom()", x.bottom(), bottom);
    }

    private static void odds() {
        VaneTown x = Check.town("place p;vane a teeth 16 at p;vane b teeth 16 at p;");
        Check.ordersTaken(x, "hold b;gust 5;wait 99;", 3);
        fraction(x, "always right", x.odds(0, 0, 20), 1, 1);
        int rights = 0;
        for (int seed = 100; seed < 120; seed++) {
            rights += (seed * 2683 + 11587) % 65536 / 8 % 16 == 0 ? 1 : 0;
        }
        Check.takes(x, "right if from north", x.odds(1, 100, 20));
        Check.due("as a fraction", x.top() * 20, rights * x.bottom());
        Check.ordersTaken(x, "wind p 8 1;", 1);
        fraction(x, "never", x.odds(0, 0, 7), 0, 1);
        fraction(x, "the last seed", x.odds(0, 9999, 1), 0, 1);
        fraction(x, "the last 20", x.odds(0, 9980, 20), 0, 1);
        Check.refuses(x, "the last above 9,999", x.odds(0, 9981, 20), 1);
        Check.refuses(x, "seed -1", x.odds(0, -1, 1), 1);
        Check.refuses(x, "seed 10000", x.odds(0, 10000, 1), 1);
        Check.refuses(x, "far", x.odds(0, Integer.MAX_VALUE, 20), 1);
        Check.refuses(x, "many 0", x.odds(0, 0, 0), 1);
        Check.refuses(x, "many 21", x.odds(0, 0, 21), 1);
        Check.refuses(x, "no such vane", x.odds(2, 0, 1), 1);
        Check.refuses(x, "no such vane", x.odds(-1, 0, 1), 1);
        Check.refuses(x, "odds is no run", x.ran(0), 6);
    }
}
