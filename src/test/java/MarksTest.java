/** Promises 54 and 55: marks, to which all is taken back. */
public final class MarksTest {
    private static final String PAIR = "place p;place q;vane a teeth 8 at p points 7;vane b teeth 8 at q;belt h of a b slack 1;";

    public static void main(String[] args) {
        atMostThree();
        allIsTakenBack();
        anotherVillage();
        allOfAVillage();
        ordersOfAllKinds();
        whatStays();
        Check.end("MarksTest");
    }

    private static void atMostThree() {
        VaneTown x = new VaneTown();
        Check.refuses(x, "none", x.back(), 6);
        for (int i = 1; i <= 3; i++) {
            Check.gives(x, "mark", x.mark(), i);
            x.pass(i);
        }
        Check.refuses(x, "a fourth", x.mark(), 4);
        Check.gives(x, "quarter", x.told(3), 6);
        Check.gives(x, "back", x.back(), 2);
        Check.gives(x, "quarter", x.told(3), 3);
        Check.gives(x, "a mark again", x.mark(), 3);
        Check.gives(x, "back", x.back(), 2);
        Check.gives(x, "back", x.back(), 1);
        Check.gives(x, "quarter", x.told(3), 1);
        Check.gives(x, "back", x.back(), 0);
        Check.gives(x, "quarter", x.told(3), 0);
        Check.refuses(x, "none left", x.back(), 6);
    }

    private static void allIsTakenBack() {
        VaneTown x = Check.town(PAIR);
        x.wind(0, 3, 2);
        x.turn(0, 2);
        x.pass(5);
        Check.ordersTaken(x, "turn b 2;stop;", 2);
        int[] before = all(x);
        x.mark();
        x.wind(0, 9, 9);
        x.wind(1, 9, 9);
        x.turn(1, 9);
        x.pass(7);
        x.hold(1, true);
        x.lift(0, true);
        Check.ordersTaken(x, "stop;", 1);
        int[] between = all(x);
        int unlike = 0;
        for (int i = 0; i < before.length; i++) {
            unlike += before[i] != between[i] ? 1 : 0;
        }
        Check.due("most is unlike", unlike > 8, true);
        Check.gives(x, "back", x.back(), 0);
        int[] behind = all(x);
        for (int i = 0; i < before.length; i++) {
            Check.due("taken back, " + i, behind[i], before[i]);
        }
    }

    private static int[] all(VaneTown x) {
        return new int[] {x.told(3), x.told(4), x.told(5), x.windAt(0, 0), x.windAt(0, 1), x.windAt(1, 0),
            x.windAt(1, 1), x.vane(0, 3), x.vane(0, 4), x.vane(0, 5), x.vane(1, 3), x.vane(1, 4), x.vane(1, 5),
            x.shaft(0, 4), x.run(0), x.ranTo(1)};
    }

    private static void anotherVillage() {
        VaneTown x = Check.town(PAIR);
        Check.ordersTaken(x, "turn b 2;stop;", 2);
        x.mark();
        Check.gives(x, "another", Check.village(x, "place r;vane c teeth 60 at r points 9;"), 1);
        x.mark();
        Check.gives(x, "a third", Check.village(x, ""), 0);
        Check.gives(x, "back", x.back(), 1);
        Check.gives(x, "vanes", x.told(1), 1);
        Check.gives(x, "teeth", x.vane(0, 0), 60);
        Check.gives(x, "points", x.vane(0, 3), 9);
        Check.ordersTaken(x, "hold c;", 1);
        Check.ordersFault(x, "hold a;", 3, 5);
        Check.gives(x, "back", x.back(), 0);
        Check.gives(x, "vanes", x.told(1), 2);
        Check.gives(x, "shafts", x.told(2), 1);
        Check.gives(x, "the orders", x.run(0), 2);
        Check.ordersFault(x, "hold c;", 3, 5);
        Check.ordersTaken(x, "hold a;lift h;wind q 0 0;", 3);
        Check.gives(x, "slack", x.shaft(0, 3), 1);
        Check.gives(x, "teeth", x.vane(1, 0), 8);
    }

    private static void allOfAVillage() {
        VaneTown x = Check.town("place p;place q;vane a teeth 8 at q stiff 3;vane b teeth 9 at p;vane c teeth 7 at q;"
                + "gear g of b a slack 3;belt h of c b slack 2;");
        x.mark();
        Check.gives(x, "unlike in all", Check.village(x, "place r;vane d teeth 20 at r stiff 9;vane e teeth 21 at r;"
                + "vane f teeth 22 at r;vane i teeth 23 at r;belt j of d e slack 7;gear k of d f slack 8;gear l of f i;"), 4);
        x.mark();
        Check.gives(x, "none", Check.village(x, ""), 0);
        Check.gives(x, "back", x.back(), 1);
        village(x, new int[][] {{20, 0, 9}, {21, 0, 0}, {22, 0, 0}, {23, 0, 0}},
                new int[][] {{0, 1, 1, 7}, {0, 2, 0, 8}, {2, 3, 0, 0}});
        Check.ordersTaken(x, "wind r 0 0;hold i;lift l;", 3);
        Check.gives(x, "back", x.back(), 0);
        village(x, new int[][] {{8, 1, 3}, {9, 0, 0}, {7, 1, 0}}, new int[][] {{1, 0, 0, 3}, {2, 1, 1, 2}});
        Check.ordersFault(x, "wind r 0 0;", 3, 5);
        Check.ordersTaken(x, "wind p 0 0;wind q 0 0;hold c;lift g;lift h;", 5);
    }

    private static void village(VaneTown x, int[][] vanes, int[][] shafts) {
        Check.gives(x, "vanes", x.told(1), vanes.length);
        Check.gives(x, "shafts", x.told(2), shafts.length);
        for (int v = 0; v < vanes.length; v++) {
            for (int what = 0; what < 3; what++) {
                Check.gives(x, "vane " + v + ", " + what, x.vane(v, what), vanes[v][what]);
            }
        }
        for (int s = 0; s < shafts.length; s++) {
            for (int what = 0; what < 4; what++) {
                Check.gives(x, "shaft " + s + ", " + what, x.shaft(s, what), shafts[s][what]);
            }
        }
    }

    private static void ordersOfAllKinds() {
        VaneTown x = Check.town(PAIR);
        Check.ordersTaken(x, "loop 2;wind p 4 9;wait 9;when points a<3;turn a 1;end;end;lift h;hold a;turn b 3;", 8);
        Check.gives(x, "as it is", x.run(0), 12);
        Check.gives(x, "a", x.ranTo(0), 3);
        Check.gives(x, "b", x.ranTo(1), 6);
        x.mark();
        for (int i = 0; i < 2; i++) {
            Check.ordersTaken(x, "turn b 1;wind q 8 1;when right b;turn b 2;wait 1;loop 3;end;end;hold b;free b;", 8);
        }
        Check.gives(x, "others", x.run(0), 5);
        Check.gives(x, "back", x.back(), 0);
        Check.gives(x, "as it was", x.run(0), 12);
        Check.gives(x, "a", x.ranTo(0), 3);
        Check.gives(x, "b", x.ranTo(1), 6);
    }

    private static void whatStays() {
        VaneTown x = Check.town(PAIR);
        x.mark();
        x.tray(0, 0, 2);
        x.write(0, 1, 5);
        Check.ordersTaken(x, "turn b 2;stop;", 2);
        x.run(0);
        x.ratio(0, 1);
        x.feed(0x20202020, 0, 0, 0, 0);
        Check.gives(x, "back", x.back(), 0);
        Check.gives(x, "the tray stays", x.read(0, 1), 5);
        Check.gives(x, "what ran stays", x.ranTo(1), 2);
        Check.due("the fraction stays", x.top(), 1);
        Check.due("the tape stays", x.feed(0, 0, 0, 0, 0), 40);
        Check.refuses(x, "the orders are gone", x.run(0), 6);
    }
}
