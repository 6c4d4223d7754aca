/** Edges of promises 13 to 17: what is told of the village, what its vanes want. */
final class EdgesOfWhatIsTold extends Edges {
    private static final String TOWN = "place p;place q;vane a teeth 8 at p stiff 5 points 7;vane b teeth 12 at q;"
            + "vane c teeth 9 at q points 1;gear g of a b slack 2;belt h of c a slack 3;";

    private EdgesOfWhatIsTold() {
    }

    static void all() {
        told();
        ofVanes();
        ofShafts();
        wants();
        wantsOfAllTeeth();
        right();
    }

    private static void told() {
        edge(13, "How many PLACES (what 0), VANES (1), SHAFTS (2); the QUARTER (3); the sets of SHAFTS that are LIFTED (4), "
                + "of VANES that are HELD (5) (1).");
        VaneTown x = Check.town(TOWN);
        bounds(x, "told", n -> x.told(n), 0, 5);
        int[] first = {2, 3, 2, 0, 0, 0};
        for (int what = 0; what <= 5; what++) {
            gives(x, "told(" + what + ")", x.told(what), first[what]);
        }
        gives(x, "pass", x.pass(7), 7);
        takes(x, "lift", x.lift(1, true));
        takes(x, "hold", x.hold(2, true));
        int[] then = {2, 3, 2, 7, 2, 4};
        for (int what = 0; what <= 5; what++) {
            gives(x, "told(" + what + ")", x.told(what), then[what]);
        }
        VaneTown full = Check.town(fullTown());
        for (int i = 0; i < 10; i++) {
            takes(full, "lift", full.lift(i, true));
            gives(full, "all up to " + i, full.told(4), (2 << i) - 1);
        }
        for (int i = 0; i < 8; i++) {
            takes(full, "hold", full.hold(i, true));
            gives(full, "all up to " + i, full.told(5), (2 << i) - 1);
        }
    }

    static String fullTown() {
        StringBuilder text = new StringBuilder("place p;place q;place r;place s;");
        for (int i = 0; i < 8; i++) {
            text.append("vane v").append((char) ('a' + i)).append(" teeth 8 at ").append("pqrs".charAt(i % 4)).append(';');
        }
        for (int i = 0; i < 10; i++) {
            text.append("gear g").append((char) ('a' + i)).append(" of va v").append((char) ('b' + i % 7)).append(';');
        }
        return text.toString();
    }

    private static void ofVanes() {
        edge(14, "Of a VANE, what 0: TEETH, 1: PLACE, 2: how STIFF, 3: where it POINTS now, 4: how many teeth it was turned, either way, "
                + "5: how often it STRUCK (1).");
        VaneTown x = Check.town(TOWN);
        int[] first = {8, 0, 5, 7, 0, 0};
        for (int what = 0; what <= 5; what++) {
            gives(x, "vane(0, " + what + ")", x.vane(0, what), first[what]);
        }
        bounds(x, "vane", n -> x.vane(n, 0), 0, 2);
        bounds(x, "what of a vane", n -> x.vane(2, n), 0, 5);
        gives(x, "over north and on", x.turn(0, 2), 2);
        gives(x, "back over north", x.turn(0, -2), 2);
        int[] then = {8, 0, 5, 7, 4, 2};
        for (int what = 0; what <= 5; what++) {
            gives(x, "vane(0, " + what + ")", x.vane(0, what), then[what]);
        }
        VaneTown full = Check.town(fullTown());
        bounds(full, "vane of eight", n -> full.vane(n, 5), 0, 7);
    }

    private static void ofShafts() {
        edge(15, "Of a SHAFT, what 0: the first VANE, 1: the second, 2: 1 for a belt, 0 for a gear, 3: SLACK, 4: PLAY (1).");
        VaneTown x = Check.town(TOWN);
        gives(x, "turn", x.turn(2, 2), 2);
        int[][] due = {{0, 1, 0, 2, 0}, {2, 0, 1, 3, 2}};
        for (int s = 0; s < 2; s++) {
            for (int what = 0; what <= 4; what++) {
                gives(x, "shaft(" + s + ", " + what + ")", x.shaft(s, what), due[s][what]);
            }
        }
        bounds(x, "shaft", n -> x.shaft(n, 0), 0, 1);
        bounds(x, "what of a shaft", n -> x.shaft(1, n), 0, 4);
        VaneTown full = Check.town(fullTown());
        bounds(full, "shaft of ten", n -> full.shaft(n, 4), 0, 9);
    }

    private static void wants() {
        edge(16, "What a VANE WANTS (1; 6: it is calm).");
        VaneTown x = Check.town(TOWN);
        beyond(x, "wants at calm", n -> x.wants(n), 0, 2);
        refuses(x, "calm", x.wants(0), 6);
        takes(x, "calm from the south", x.wind(0, 8, 0));
        refuses(x, "calm", x.wants(0), 6);
        takes(x, "wind", x.wind(0, 8, 1));
        gives(x, "1 is no calm", x.wants(0), 4);
        refuses(x, "calm at the other place", x.wants(1), 6);
        takes(x, "wind", x.wind(1, 8, 99));
        bounds(x, "wants", n -> x.wants(n), 0, 2);
        gives(x, "a held one wants, too", asNumber(x.hold(1, true)), 1);
        gives(x, "held", x.wants(1), 6);
        edge(16, "What a VANE WANTS: the tooth that is nearest to that (its TEETH by the DIRECTION by 16, rounded to the nearest, "
                + "halves up; TEETH is tooth 0), if it is not calm at its PLACE;");
        VaneTown y = Check.town("place p;vane a teeth 8 at p;vane b teeth 4 at p;vane c teeth 7 at p;vane d teeth 9 at p;"
                + "vane e teeth 60 at p;vane f teeth 24 at p;vane g teeth 16 at p;");
        int[][] due = {
            {1, 1, 0, 0, 1, 4, 2, 1}, // 0.5 and 1.5 up; 0.25 and 0.4375 down; 0.5625 up
            {2, 1, 1, 1, 1, 8, 3, 2}, // 0.5 and 7.5 up
            {3, 2, 1, 1, 2, 11, 5, 3}, // 1.5 and 4.5 up; 11.25 down
            {8, 4, 2, 4, 5, 30, 12, 8}, // 3.5 and 4.5 up
            {14, 7, 0, 6, 8, 53, 21, 14}, // 3.5 up to 4: tooth 0
            {15, 0, 0, 0, 8, 56, 23, 15}, // 7.5 up to 8, 3.75, 6.5625 up to 7: tooth 0; 8.4375 is 8
            {0, 0, 0, 0, 0, 0, 0, 0}};
        for (int[] row : due) {
            takes(y, "wind", y.wind(0, row[0], 1));
            for (int v = 0; v < 7; v++) {
                gives(y, "vane " + v + " from " + row[0], y.wants(v), row[v + 1]);
            }
        }
    }

    private static void wantsOfAllTeeth() {
        edge(16, "its TEETH by the DIRECTION by 16, rounded to the nearest, halves up; TEETH is tooth 0");
        for (int teeth = 4; teeth <= 60; teeth++) {
            VaneTown x = Check.town("place p;vane a teeth " + teeth + " at p;");
            for (int direction = 0; direction < 16; direction++) {
                x.wind(0, direction, 99);
                gives(x, teeth + " teeth from " + direction, x.wants(0), Math.round(teeth * direction / 16.0) % teeth);
            }
        }
    }

    private static void right() {
        edge(17, "1 if it is RIGHT, else 0 (1).");
        VaneTown x = Check.town(TOWN);
        bounds(x, "right", n -> x.right(n), 0, 2);
        edge(17, "it is RIGHT, if it POINTS there, or it is calm.");
        gives(x, "calm", x.right(0), 1);
        takes(x, "a tooth to the right of it", x.wind(0, 0, 1));
        gives(x, "not there", x.right(0), 0);
        gives(x, "calm at the other place", x.right(1), 1);
        takes(x, "from 15: 7.5, tooth 0", x.wind(0, 15, 1));
        gives(x, "not there", x.right(0), 0);
        takes(x, "from 14: 7", x.wind(0, 14, 1));
        gives(x, "there", x.right(0), 1);
        takes(x, "from 13: 6.5, 7", x.wind(0, 13, 1));
        gives(x, "there", x.right(0), 1);
        takes(x, "from 12: 6", x.wind(0, 12, 1));
        gives(x, "not there", x.right(0), 0);
        takes(x, "calm", x.wind(0, 12, 0));
        gives(x, "calm", x.right(0), 1);
    }
}
