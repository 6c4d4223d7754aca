/** Edges of promises 54 and 55: marks, to which all is taken back. */
final class EdgesOfMarks extends Edges {
    private static final String PAIR = "place p;place q;vane a teeth 8 at p points 7;vane b teeth 8 at q;belt h of a b slack 1;";

    private EdgesOfMarks() {
    }

    static void all() {
        mark();
        back();
        kept();
        villageIsKept();
        ordersAreKept();
        nested();
    }

    private static void mark() {
        edge(54, "A MARK more: how many there are (4).");
        VaneTown x = new VaneTown();
        gives(x, "one", x.mark(), 1);
        gives(x, "two", x.mark(), 2);
        gives(x, "three", x.mark(), 3);
        refuses(x, "one too many", x.mark(), 4);
        refuses(x, "one too many", x.mark(), 4);
        gives(x, "back", x.back(), 2);
        gives(x, "three again", x.mark(), 3);
        refuses(x, "one too many", x.mark(), 4);
        edge(54, "MARKS, at most 3:");
        VaneTown y = Check.town(PAIR);
        gives(y, "mark", y.mark(), 1);
        gives(y, "a new village does not take them away", Check.village(y, PAIR), 2);
        gives(y, "mark", y.mark(), 2);
        gives(y, "mark", y.mark(), 3);
        gives(y, "pass", y.pass(1), 1);
        refuses(y, "one too many", y.mark(), 4);
        gives(y, "it has not kept what is now", y.back(), 2);
        gives(y, "QUARTER", y.told(3), 0);
    }

    private static void back() {
        edge(55, "All is taken back to the latest MARK: how many there are left (6).");
        VaneTown x = new VaneTown();
        refuses(x, "there is none", x.back(), 6);
        for (int i = 1; i <= 3; i++) {
            gives(x, "pass", x.pass(i), i == 1 ? 1 : i == 2 ? 3 : 6);
            gives(x, "mark", x.mark(), i);
        }
        gives(x, "pass", x.pass(99), 105);
        int[] quarters = {6, 3, 1};
        for (int i = 0; i < 3; i++) {
            gives(x, "back", x.back(), 2 - i);
            gives(x, "QUARTER", x.told(3), quarters[i]);
        }
        refuses(x, "there is none left", x.back(), 6);
        gives(x, "QUARTER", x.told(3), 1);
    }

    private static int[] all(VaneTown x) {
        return new int[] {x.told(0), x.told(1), x.told(2), x.told(3), x.told(4), x.told(5), x.windAt(0, 0), x.windAt(0, 1),
            x.windAt(1, 0), x.windAt(1, 1), x.vane(0, 3), x.vane(0, 4), x.vane(0, 5), x.vane(1, 3), x.vane(1, 4), x.vane(1, 5),
            x.shaft(0, 4), x.run(0), x.ranTo(0), x.ranTo(1)};
    }

    private static void kept() {
        edge(55, "the VILLAGE, winds, where all POINT, PLAY, what is LIFTED, HELD, was turned, the QUARTER, the ORDERS are kept as they are; "
                + "all is taken back to the latest MARK, which is gone then.");
        VaneTown x = Check.town(PAIR);
        takes(x, "wind", x.wind(0, 3, 2));
        gives(x, "turn", x.turn(0, 2), 2);
        gives(x, "pass", x.pass(5), 5);
        Check.ordersTaken(x, "turn b 2;stop;", 2);
        int[] before = all(x);
        gives(x, "mark", x.mark(), 1);
        takes(x, "wind", x.wind(0, 9, 9));
        takes(x, "wind", x.wind(1, 9, 9));
        gives(x, "turn", x.turn(1, 9), 9);
        gives(x, "pass", x.pass(7), 12);
        takes(x, "lift", x.lift(0, true));
        takes(x, "hold", x.hold(1, true));
        gives(x, "turn", x.turn(0, 3), 3);
        Check.ordersTaken(x, "stop;", 1);
        gives(x, "back", x.back(), 0);
        int[] behind = all(x);
        for (int i = 0; i < before.length; i++) {
            due("taken back, " + i, behind[i], before[i]);
        }
        refuses(x, "the MARK is gone", x.back(), 6);
        gives(x, "mark", x.mark(), 1);
        gives(x, "another village", Check.village(x, "place z;"), 0);
        gives(x, "back", x.back(), 0);
        behind = all(x);
        for (int i = 0; i < before.length; i++) {
            due("taken back from another village, " + i, behind[i], before[i]);
        }
        Check.ordersTaken(x, "wind q 0 0;hold a;lift h;", 3);
        Check.ordersFault(x, "wind z 0 0;", 3, 5);
    }

    /** Unlike in all from VILLAGE, with more of everything. */
    private static final String OTHER = "place r;place s;place t;vane d teeth 20 at t stiff 9 points 3;vane e teeth 21 at s stiff 8 points 4;"
            + "vane f teeth 22 at t stiff 7 points 5;vane i teeth 23 at s points 6;belt j of d e slack 7;gear k of i f slack 8;gear l of f i slack 6;";
    private static final String VILLAGE = "place p;place q;vane a teeth 8 at q stiff 3 points 2;vane b teeth 9 at p;vane c teeth 7 at q points 1;"
            + "gear g of b a slack 3;belt h of c b slack 2;";

    private static void villageIs(VaneTown x, int[][] vanes, int[][] shafts) {
        gives(x, "VANES", x.told(1), vanes.length);
        gives(x, "SHAFTS", x.told(2), shafts.length);
        for (int v = 0; v < vanes.length; v++) {
            for (int what = 0; what < 4; what++) {
                gives(x, "vane(" + v + ", " + what + ")", x.vane(v, what), vanes[v][what]);
            }
        }
        for (int s = 0; s < shafts.length; s++) {
            for (int what = 0; what < 4; what++) {
                gives(x, "shaft(" + s + ", " + what + ")", x.shaft(s, what), shafts[s][what]);
            }
        }
    }

    private static void villageIsKept() {
        edge(55, "the VILLAGE, winds, where all POINT");
        int[][] vanes = {{8, 1, 3, 2}, {9, 0, 0, 0}, {7, 1, 0, 1}};
        int[][] shafts = {{1, 0, 0, 3}, {2, 1, 1, 2}};
        int[][] otherVanes = {{20, 2, 9, 3}, {21, 1, 8, 4}, {22, 2, 7, 5}, {23, 1, 0, 6}};
        int[][] otherShafts = {{0, 1, 1, 7}, {3, 2, 0, 8}, {2, 3, 0, 6}};
        VaneTown x = Check.town(VILLAGE);
        gives(x, "mark", x.mark(), 1);
        gives(x, "another", Check.village(x, OTHER), 4);
        gives(x, "mark", x.mark(), 2);
        gives(x, "none", Check.village(x, ""), 0);
        gives(x, "mark", x.mark(), 3);
        gives(x, "the first again", Check.village(x, VILLAGE), 3);
        gives(x, "back to none", x.back(), 2);
        villageIs(x, new int[0][], new int[0][]);
        gives(x, "no PLACES", x.told(0), 0);
        gives(x, "back to the other", x.back(), 1);
        villageIs(x, otherVanes, otherShafts);
        Check.ordersTaken(x, "wind r 0 0;wind t 0 0;hold d;hold i;lift j;lift l;", 6);
        gives(x, "back to the first", x.back(), 0);
        villageIs(x, vanes, shafts);
        gives(x, "two PLACES", x.told(0), 2);
        Check.ordersTaken(x, "wind p 0 0;wind q 0 0;hold a;hold c;lift g;lift h;", 6);
        Check.ordersFault(x, "hold d;", 3, 5);
        Check.ordersFault(x, "lift l;", 3, 5);
        Check.ordersFault(x, "wind t 0 0;", 3, 5);
    }

    private static void ordersAreKept() {
        edge(55, "the ORDERS are kept as they are;");
        String first = "loop 2;wind p 4 9;wait 9;when points a<3;turn a 1;end;end;lift h;hold a;turn b 3;";
        String second = "turn b 1;wind q 8 1;when right b;turn b 2;wait 1;loop 3;end;end;hold b;free b;";
        VaneTown x = Check.town("place p;place q;vane a teeth 8 at p;vane b teeth 8 at q;belt h of a b slack 1;");
        Check.ordersTaken(x, first, 8);
        int[] due = {x.run(0), x.ranTo(0), x.ranTo(1), x.ran(0), x.ran(1)};
        due("STEPS: 1, twice 4, one when that is so", due[0], 12);
        gives(x, "mark", x.mark(), 1);
        for (int i = 0; i < 2; i++) {
            Check.ordersTaken(x, second, 8);
        }
        gives(x, "others are run", x.run(0), 5);
        gives(x, "back", x.back(), 0);
        int[] again = {x.run(0), x.ranTo(0), x.ranTo(1), x.ran(0), x.ran(1)};
        for (int i = 0; i < due.length; i++) {
            due("as they were, " + i, again[i], due[i]);
        }
        gives(x, "a village of no ORDERS", Check.village(x, VILLAGE), 3);
        gives(x, "mark", x.mark(), 1);
        Check.ordersTaken(x, "stop;", 1);
        gives(x, "back", x.back(), 0);
        refuses(x, "no ORDERS were kept", x.run(0), 6);
    }

    private static void nested() {
        edge(55, "all is taken back to the latest MARK, which is gone then.");
        VaneTown x = Check.town("place p;vane a teeth 60 at p;");
        for (int i = 0; i < 3; i++) {
            gives(x, "turn", x.turn(0, 1), 1);
            gives(x, "mark", x.mark(), i + 1);
        }
        for (int i = 3; i > 0; i--) {
            gives(x, "turn", x.turn(0, 20), 20);
            gives(x, "back", x.back(), i - 1);
            gives(x, "where it pointed then", x.vane(0, 3), i);
            gives(x, "teeth turned then", x.vane(0, 4), i);
        }
        gives(x, "what is kept is no more than a copy", x.mark(), 1);
        gives(x, "turn", x.turn(0, 5), 5);
        takes(x, "hold", x.hold(0, true));
        gives(x, "back", x.back(), 0);
        gives(x, "mark", x.mark(), 1);
        gives(x, "turn", x.turn(0, 7), 7);
        gives(x, "back", x.back(), 0);
        gives(x, "as at the first MARK", x.vane(0, 3), 1);
    }
}
