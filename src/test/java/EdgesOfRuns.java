/** Edges of promises 50 to 53: ORDERS that are run, what came of it, odds. */
final class EdgesOfRuns extends Edges {
    private static final String PAIR = "place p;place q;vane a teeth 8 at p;vane b teeth 8 at q;belt h of a b slack 1;";
    private static final String ALONE = "place p;vane a teeth 60 at p points 5;vane b teeth 9 at p;";

    private EdgesOfRuns() {
    }

    static void all() {
        runIsAsked();
        nowStays();
        windsAndWaits();
        gusts();
        draws();
        liftsAndHolds();
        stepsDoNothingElse();
        turns();
        whens();
        loops();
        mostSteps();
        ran();
        ranLatest();
        ranTo();
        odds();
    }

    private static void runs(VaneTown x, String text, int steps, int... points) {
        takes(x, "orders of " + text, Check.orders(x, text) >= 0);
        gives(x, "run of " + text, x.run(0), steps);
        for (int v = 0; v < points.length; v++) {
            gives(x, "vane " + v + " behind " + text, x.ranTo(v), points[v]);
        }
    }

    private static void ran(VaneTown x, String when, int... due) {
        for (int what = 0; what < due.length; what++) {
            gives(x, when + ": ran(" + what + ")", x.ran(what), due[what]);
        }
    }

    private static void runIsAsked() {
        edge(50, "RUN: how many STEPS were done (1; 6: no ORDERS).");
        VaneTown x = Check.town(PAIR);
        beyond(x, "seed, without ORDERS", n -> x.run(n), 0, 9999);
        refuses(x, "no ORDERS", x.run(0), 6);
        refuses(x, "no ORDERS", x.run(9999), 6);
        Check.ordersTaken(x, "wait 1;stop;wait 1;", 3);
        edge(50, "RUN by a seed (0 to 9,999):");
        bounds(x, "seed", n -> x.run(n), 0, 9999);
        edge(50, "RUN: how many STEPS were done (1; 6: no ORDERS).");
        gives(x, "STEPS up to the stop", x.run(0), 2);
        Check.ordersTaken(x, "", 0);
        gives(x, "ORDERS without STEPS", x.run(0), 0);
        gives(x, "a new village has none", Check.village(x, PAIR), 2);
        refuses(x, "no ORDERS", x.run(0), 6);
    }

    private static void nowStays() {
        edge(50, "from what is now, which stays.");
        VaneTown x = Check.town(PAIR);
        takes(x, "wind", x.wind(0, 4, 9));
        takes(x, "wind", x.wind(1, 4, 9));
        gives(x, "pass", x.pass(1), 1);
        gives(x, "turn", x.turn(0, 1), 1);
        runs(x, "wait 99;", 1, 2, 2);
        runs(x, "wind p 8 5;gust 4;wait 9;lift h;hold a;turn b 7;", 6);
        point(x, "now", 2, 1);
        int[] due = {2, 2, 1, 1, 0, 0};
        for (int what = 0; what <= 5; what++) {
            gives(x, "told(" + what + ")", x.told(what), due[what]);
        }
        gives(x, "wind", x.windAt(0, 0), 4);
        gives(x, "wind", x.windAt(0, 1), 9);
        gives(x, "turned", x.vane(0, 4), 2);
        gives(x, "turned", x.vane(1, 4), 1);
        gives(x, "PLAY", x.shaft(0, 4), 1);
        takes(x, "hold", x.hold(1, true));
        runs(x, "turn b 1;turn a 1;", 2, 2, 1);
    }

    private static void windsAndWaits() {
        edge(50, "wind: from a DIRECTION (0 to 15), so STRONG (0 to 99) at a PLACE from now on;");
        VaneTown x = Check.town("place p;place q;vane a teeth 16 at p;vane b teeth 16 at q stiff 98;");
        runs(x, "wind p 15 1;wait 1;wait 9;", 3, 15, 0);
        runs(x, "wind q 8 98;wait 99;", 2, 0, 0);
        runs(x, "wind q 8 99;wait 99;", 2, 0, 8);
        runs(x, "wind p 4 1;wait 2;wind p 4 0;wait 9;", 4, 2, 0);
        runs(x, "wind p 4 1;wait 1;wind p 0 1;wait 1;", 4, 0, 0);
        edge(50, "wait n (1 to 99) QUARTERS;");
        runs(x, "wind p 8 1;wait 1;", 2, 1, 0);
        gives(x, "QUARTERS", x.ran(0), 1);
        runs(x, "wind p 8 1;wait 7;", 2, 7, 0);
        runs(x, "wind p 8 1;wait 99;", 2, 8, 0);
        gives(x, "QUARTERS", x.ran(0), 99);
    }

    private static int[] draws(int seed, int many) {
        int[] draws = new int[many];
        long s = seed;
        for (int i = 0; i < many; i++) {
            s = (s * 2683 + 11587) % 65536;
            draws[i] = (int) (s / 8 % 16);
        }
        return draws;
    }

    private static void gusts() {
        edge(50, "gust n (0 to 99): for each PLACE a draw by 16: from there, so STRONG;");
        VaneTown x = Check.town("place p;place q;place r;place s;vane a teeth 16 at s;vane b teeth 16 at r;vane c teeth 16 at q;"
                + "vane d teeth 16 at p stiff 98;");
        int[] d = draws(0, 12);
        runs(x, "gust 99;", 1, 0, 0, 0, 0);
        ran(x, "no QUARTER goes by", 0, 0);
        runs(x, "gust 98;wait 99;", 2, d[3], d[2], d[1], 0);
        runs(x, "gust 99;wait 99;", 2, d[3], d[2], d[1], d[0]);
        runs(x, "gust 0;wait 99;", 2, 0, 0, 0, 0);
        runs(x, "gust 0;gust 99;wait 99;", 3, d[7], d[6], d[5], d[4]);
        runs(x, "gust 1;wait 99;gust 1;wait 99;gust 1;wait 99;", 6, d[11], d[10], d[9], 0);
    }

    private static void draws() {
        edge(50, "Draws: s, at first the seed, becomes what is left of s times 2,683 and 11,587 by 65,536; "
                + "the draw is the rest of s by 8, rounded down, by 16.");
        String text = "place p;place q;place r;place s;vane a teeth 16 at p;vane b teeth 16 at q;vane c teeth 16 at r;vane d teeth 16 at s;";
        VaneTown x = Check.town(text);
        Check.ordersTaken(x, "gust 1;wait 8;", 2);
        // s: 11,587 (1,448.375: 8), then 35,444 (4,430.5: 14), then 15,103 (1,887.875: 15), then 31,688 (3,961: 9).
        gives(x, "seed 0", x.run(0), 2);
        int[] due = {8, 14, 15, 9};
        for (int v = 0; v < 4; v++) {
            gives(x, "seed 0, draw " + v, x.ranTo(v), due[v]);
        }
        int[] seeds = {1, 7, 20, 24, 25, 4999, 5000, 9998, 9999};
        for (int seed : seeds) {
            int[] d = draws(seed, 4);
            gives(x, "run", x.run(seed), 2);
            for (int v = 0; v < 4; v++) {
                gives(x, "seed " + seed + ", draw " + v, x.ranTo(v), d[v]);
            }
        }
        VaneTown y = Check.town(text);
        Check.ordersTaken(y, "loop 99;gust 1;wait 8;end;", 3);
        int[] d = draws(9999, 4 * 99);
        gives(y, "drawn on and on", y.run(9999), 199);
        for (int v = 0; v < 4; v++) {
            gives(y, "the last of 396 draws", y.ranTo(v), d[4 * 98 + v]);
        }
        gives(y, "run", y.run(9999), 199);
        gives(y, "the same seed, the same draws", y.ranTo(3), d[4 * 98 + 3]);
    }

    private static void liftsAndHolds() {
        edge(50, "lift, lower: the SHAFT is LIFTED, or no more (its PLAY is as it was); hold, free;");
        VaneTown x = Check.town(PAIR);
        runs(x, "turn a 3;", 1, 3, 2);
        runs(x, "lift h;turn a 3;", 2, 3, 0);
        runs(x, "lift h;turn a 3;lower h;turn a 2;", 4, 5, 1);
        runs(x, "turn a 1;lift h;turn a 3;lower h;turn a 2;", 5, 6, 2);
        runs(x, "lift h;lift h;lower h;turn a 3;", 4, 3, 2);
        runs(x, "lower h;turn a 3;", 2, 3, 2);
        runs(x, "hold b;turn a 3;", 2, 1, 0);
        runs(x, "hold b;turn a 3;free b;turn a 3;", 4, 4, 3);
        runs(x, "hold a;turn a 3;", 2, 0, 0);
        runs(x, "hold a;hold a;free a;turn a 3;", 4, 3, 2);
        runs(x, "free a;turn a 3;", 2, 3, 2);
        runs(x, "hold a;wind p 4 9;wait 9;", 3, 0, 0);
        runs(x, "hold b;wind p 4 9;wait 9;", 3, 1, 0);
    }

    /** Each STEP does what it says, and nothing to the vane or the shaft whose number happens to be alike. */
    private static void stepsDoNothingElse() {
        edge(50, "lift, lower: the SHAFT is LIFTED, or no more (its PLAY is as it was); hold, free;");
        VaneTown x = Check.town(PAIR);
        runs(x, "hold a;lift h;turn a 3;", 3, 0, 0);
        runs(x, "hold a;lower h;turn a 3;", 3, 0, 0);
        runs(x, "lift h;hold a;free a;turn b 2;", 4, 0, 2);
        runs(x, "lift h;wait 1;turn b 2;", 3, 0, 2);
        runs(x, "lift h;gust 0;turn b 2;", 3, 0, 2);
        runs(x, "lift h;wind p 0 0;turn b 2;", 3, 0, 2);
        runs(x, "hold a;wait 1;turn a 3;", 3, 0, 0);
        runs(x, "hold a;gust 0;turn a 3;", 3, 0, 0);
        runs(x, "wind p 4 1;gust 0;wait 9;", 3, 0, 0);
        runs(x, "wind p 4 1;lift h;hold b;wait 9;", 4, 2, 0);
        // The rows of the ORDERS ahead had numbers where these have none.
        runs(x, "turn b 9;turn b 9;turn b 9;wait 9;", 4, 3, 3);
        gives(x, "QUARTERS", x.ran(0), 9);
        runs(x, "turn b 9;turn b 9;turn b 9;wait 9;", 4, 3, 3);
        runs(x, "hold a;free a;hold b;free b;", 4, 0, 0);
        runs(x, "hold a;free a;hold b;free b;", 4, 0, 0);
        runs(x, "lift h;lower h;lift h;gust 0;", 4, 0, 0);
        runs(x, "lift h;lower h;lift h;gust 0;", 4, 0, 0);
        gives(x, "QUARTERS", x.ran(0), 0);
    }

    private static void turns() {
        edge(50, "turn: by hand, so many (1 to 99) to the right.");
        VaneTown x = Check.town(PAIR);
        runs(x, "turn a 1;", 1, 1, 0);
        runs(x, "turn b 1;", 1, 1, 1);
        runs(x, "turn a 99;", 1, 3, 2);
        ran(x, "99 and 98", 0, 197, 24, 3, 0);
        runs(x, "hold b;turn a 99;", 2, 1, 0);
        gives(x, "until it is BLOCKED", x.ran(1), 1);
    }

    /** Within it b is turned twice by one, behind it by four. */
    private static void when(VaneTown x, String test, boolean is) {
        runs(x, "when " + test + ";turn b 1;turn b 1;end;turn b 4;", is ? 4 : 2, x.vane(0, 3), is ? 6 : 4);
    }

    private static void whens() {
        edge(50, "when: where it POINTS is so (0 to 60); it is RIGHT.");
        VaneTown x = Check.town(ALONE);
        String[] is = {"points a<6", "points a<60", "points a>4", "points a>0", "points a=5", "points b=0", "points b<1", "right a", "right b"};
        for (String test : is) {
            when(x, test, true);
        }
        String[] isNot = {"points a<5", "points a<0", "points a>5", "points a>60", "points a=4", "points a=6", "points b>0", "points b<0"};
        for (String test : isNot) {
            when(x, test, false);
        }
        takes(x, "wind", x.wind(0, 0, 1));
        when(x, "right a", false);
        when(x, "right b", true);
        takes(x, "to 4", x.wind(0, 1, 1));
        when(x, "right a", false);
        VaneTown y = Check.town("place p;vane a teeth 60 at p points 59;vane b teeth 9 at p;");
        when(y, "points a<60", true);
        when(y, "points a>58", true);
        when(y, "points a=59", true);
        when(y, "points a=60", false);
        runs(y, "when points b=0;turn b 1;when points b=1;turn b 1;when points b>1;turn b 1;end;end;end;", 6, 59, 3);
        runs(y, "when points b>0;when points b=0;turn b 1;end;turn b 1;end;turn b 5;", 2, 59, 5);
        runs(y, "wind p 8 1;when right b;turn b 1;end;wait 9;when right b;turn b 1;end;", 5, 50, 6);
    }

    private static void loops() {
        edge(50, "loop n (1 to 99): as often.");
        VaneTown x = Check.town("place p;vane a teeth 60 at p;vane b teeth 60 at p;");
        runs(x, "loop 1;turn a 1;end;", 2, 1, 0);
        runs(x, "loop 2;turn a 1;end;", 3, 2, 0);
        runs(x, "loop 99;turn a 1;end;", 100, 39, 0);
        runs(x, "loop 3;loop 2;turn a 1;end;turn b 1;end;", 1 + 3 * 4, 6, 3);
        runs(x, "loop 2;loop 2;loop 2;turn a 1;end;end;end;turn b 1;", 1 + 2 * (1 + 2 * 3) + 1, 8, 1);
        runs(x, "loop 99;end;turn a 1;", 2, 1, 0);
        runs(x, "loop 3;turn a 1;stop;end;turn b 1;", 3, 1, 0);
        runs(x, "loop 9;when points a>1;stop;end;turn a 1;end;", 1 + 2 + 2 + 2, 2, 0);
        runs(x, "when points a=1;loop 9;turn a 1;end;end;turn b 1;", 2, 0, 1);
    }

    private static void mostSteps() {
        edge(50, "At most 400 STEPS (when, loop count as one each time they are come to from ahead; end does not).");
        VaneTown x = Check.town("place p;vane a teeth 60 at p;");
        String loop = "loop 99;turn a 1;turn a 1;turn a 1;turn a 1;end;";
        runs(x, loop + "wait 1;wait 1;", 399, 36);
        gives(x, "399: none left", x.ran(4), 0);
        runs(x, loop + "wait 1;wait 1;wait 1;", 400, 36);
        gives(x, "400: none left", x.ran(4), 0);
        gives(x, "400: all three waited", x.ran(0), 3);
        runs(x, loop + "wait 1;wait 1;wait 1;wait 1;", 400, 36);
        gives(x, "401: one left", x.ran(4), 1);
        gives(x, "401: it was not done", x.ran(0), 3);
        runs(x, loop + "wait 1;wait 1;wait 1;stop;", 400, 36);
        gives(x, "a stop is left", x.ran(4), 1);
        runs(x, loop + "wait 1;wait 1;stop;wait 1;", 400, 36);
        gives(x, "the stop is the 400th: none left", x.ran(4), 0);
        runs(x, loop + "wait 1;wait 1;loop 99;end;", 400, 36);
        gives(x, "ends alone are left", x.ran(4), 0);
        runs(x, loop + "wait 1;wait 1;loop 2;wait 1;end;", 400, 36);
        gives(x, "what is in the loop is left", x.ran(4), 1);
        runs(x, loop + "wait 1;wait 1;when points a=0;wait 1;end;", 400, 36);
        gives(x, "what is in a when that is not so is not left", x.ran(4), 0);
        runs(x, loop + "wait 1;wait 1;when points a=36;wait 1;end;", 400, 36);
        gives(x, "what is in a when that is so is left", x.ran(4), 1);
        runs(x, "loop 99;when right a;end;when right a;end;when right a;end;when right a;end;end;", 397, 0);
        gives(x, "a when counts each time", x.ran(4), 0);
        runs(x, "loop 99;loop 99;end;loop 99;end;loop 99;end;loop 99;end;end;", 397, 0);
        gives(x, "a loop counts each time it is come to from ahead", x.ran(4), 0);
        runs(x, "loop 99;loop 99;loop 99;turn a 1;end;end;end;", 400, 394 % 60);
        gives(x, "3 loops, 99 turns, 3 times a loop: 394 turns", x.ran(1), 394);
        gives(x, "left", x.ran(4), 1);
        runs(x, "loop 99;loop 99;loop 99;wait 99;end;end;end;", 400, 0);
        gives(x, "394 times 99 QUARTERS", x.ran(0), 394 * 99);
    }

    private static void ran() {
        edge(51, "Of run() latest with STATUS 0, what 0: QUARTERS that went by, 1: teeth turned, all together, 2: bells struck, "
                + "3: the set of VANES that were RIGHT at the end, 4: 1 if a STEP was left to be done, else 0 (1; 6: there was none).");
        VaneTown x = Check.town(PAIR);
        beyond(x, "what, ahead of any", n -> x.ran(n), 0, 4);
        for (int what = 0; what <= 4; what++) {
            refuses(x, "there was none", x.ran(what), 6);
        }
        refuses(x, "a run with STATUS 6", x.run(0), 6);
        refuses(x, "there was none", x.ran(0), 6);
        runs(x, "wind p 4 9;wind q 12 1;wait 3;turn b 7;", 4, 0, 0);
        bounds(x, "what", n -> x.ran(n), 0, 4);
        // a comes to 2 and takes b along to 1; by hand b goes 7 teeth to 0 and, behind 1 of PLAY, takes a along 6 to 0.
        ran(x, "by winds and by hand", 3, 2 + 1 + 7 + 6, 2, 0, 0);
        runs(x, "stop;", 1, 0, 0);
        ran(x, "nothing", 0, 0, 0, 3, 0);
        runs(x, "turn a 8;wind q 8 1;", 2, 0, 7);
        ran(x, "a round, b 7 of it", 0, 15, 1, 1, 0);
        runs(x, "wind p 4 9;wait 2;", 2, 2, 1);
        ran(x, "a 2, b 1", 2, 3, 0, 3, 0);
        runs(x, "wait 99;wait 99;", 2, 0, 0);
        ran(x, "calm", 198, 0, 0, 3, 0);
    }

    private static void ranLatest() {
        edge(51, "Of run() latest with STATUS 0");
        VaneTown x = Check.town(PAIR);
        runs(x, "wait 5;turn b 3;", 2, 3, 3);
        beyond(x, "a run with STATUS 1", n -> x.run(n), 0, 9999);
        ran(x, "the one ahead of these", 5, 6, 0, 3, 0);
        takes(x, "odds are no run", x.odds(0, 0, 20));
        ran(x, "the one ahead of these", 5, 6, 0, 3, 0);
        gives(x, "a new village", Check.village(x, "place z;"), 0);
        refuses(x, "a run with STATUS 6", x.run(0), 6);
        ran(x, "the one ahead of these", 5, 6, 0, 3, 0);
        runs(x, "wait 2;", 1);
        ran(x, "of no vanes", 2, 0, 0, 0, 0);
    }

    private static void ranTo() {
        edge(52, "Where a VANE POINTED at the end of it (1: above 7, below 0; 6: there was none, no such VANE then).");
        VaneTown x = Check.town(PAIR);
        beyond(x, "vane, ahead of any", n -> x.ranTo(n), 0, 7);
        for (int v = 0; v <= 7; v++) {
            refuses(x, "there was none", x.ranTo(v), 6);
        }
        runs(x, "turn b 3;", 1, 3, 3);
        beyond(x, "vane", n -> x.ranTo(n), 0, 7);
        refuses(x, "no such VANE then", x.ranTo(2), 6);
        refuses(x, "no such VANE then", x.ranTo(7), 6);
        gives(x, "a village of eight", Check.village(x, EdgesOfWhatIsTold.fullTown()), 8);
        gives(x, "of that then", x.ranTo(1), 3);
        refuses(x, "no such VANE then, though there is one now", x.ranTo(7), 6);
        runs(x, "lift ga;lift gb;lift gc;lift gd;lift ge;lift gf;lift gg;lift gh;lift gi;lift gj;turn vh 5;", 11, 0, 0, 0, 0, 0, 0, 0, 5);
        gives(x, "a village of none", Check.village(x, ""), 0);
        gives(x, "the last of eight then", x.ranTo(7), 5);
        runs(x, "", 0);
        refuses(x, "no VANES then", x.ranTo(0), 6);
        refuses(x, "no VANES then", x.ranTo(7), 6);
    }

    private static void odds() {
        edge(53, "The FRACTION is with how many of so many seeds (1 to 20) from one on a VANE is RIGHT at the end (1: the last above 9,999, too; 6).");
        VaneTown x = Check.town("place p;vane a teeth 16 at p;vane b teeth 16 at p;");
        beyond(x, "vane, without ORDERS", n -> asNumber(x.odds(n, 0, 1)), 0, 1);
        beyond(x, "seed, without ORDERS", n -> asNumber(x.odds(0, n, 1)), 0, 9999);
        beyond(x, "many, without ORDERS", n -> asNumber(x.odds(0, 0, n)), 1, 20);
        refuses(x, "the last above 9,999, without ORDERS", x.odds(0, 9999, 2), 1);
        refuses(x, "no ORDERS", x.odds(0, 9999, 1), 6);
        Check.ordersTaken(x, "hold b;gust 5;wait 99;", 3);
        bounds(x, "vane", n -> asNumber(x.odds(n, 0, 1)), 0, 1);
        bounds(x, "seed", n -> asNumber(x.odds(0, n, 1)), 0, 9999);
        bounds(x, "many", n -> asNumber(x.odds(0, 0, n)), 1, 20);
        for (int many = 1; many <= 20; many++) {
            takes(x, "the last is 9,999", x.odds(0, 10000 - many, many));
            refuses(x, "the last is 10,000", x.odds(0, 10001 - many, many), 1);
        }
        refuses(x, "far", x.odds(0, Integer.MAX_VALUE, 20), 1);
        tells(x, "a is always RIGHT", x.odds(0, 0, 20), 1, 1);
        int rights = 0;
        for (int seed = 0; seed < 20; seed++) {
            rights += draws(seed, 1)[0] == 0 ? 1 : 0;
        }
        takes(x, "b, held at north", x.odds(1, 0, 20));
        due("so many of 20", x.top() * 20, rights * x.bottom());
        for (int seed = 0; seed < 40; seed++) {
            boolean isNorth = draws(seed, 1)[0] == 0;
            tells(x, "b, seed " + seed, x.odds(1, seed, 1), isNorth ? 1 : 0, 1);
        }
        point(x, "nothing is turned by it", 0, 0);
        VaneTown y = Check.town("place p;vane a teeth 16 at p;");
        Check.ordersTaken(y, "", 0);
        tells(y, "ORDERS without STEPS", y.odds(0, 0, 20), 1, 1);
        takes(y, "wind", y.wind(0, 8, 1));
        tells(y, "not RIGHT", y.odds(0, 0, 20), 0, 1);
    }
}
