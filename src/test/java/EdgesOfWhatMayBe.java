/** Edges of promises 46 to 49: leaving winds, the clutch to lift so as to know, what was seen. */
final class EdgesOfWhatMayBe extends Edges {
    private static final int ALL_WINDS = 65535;
    private static final String PAIR = "place p;place q;vane a teeth 8 at p;vane b teeth 8 at q points 4;belt h of a b;";

    private EdgesOfWhatMayBe() {
    }

    static void all() {
        leaving();
        knowing();
        seenIsAsked();
        whole();
        broken();
    }

    private static void leaving() {
        edge(46, "LEAVING winds: a set (1).");
        VaneTown x = Check.town("place p;vane a teeth 16 at p stiff 98;");
        bounds(x, "strong", n -> x.leaving(n), 1, 99);
        edge(46, "LEAVING winds, if they were so STRONG (1 to 99) at all PLACES: the set of DIRECTIONS (1 for 0, 2 for 1 ..) from which, "
                + "blowing everywhere, nothing would turn in a QUARTER.");
        gives(x, "98 against 98", x.leaving(98), ALL_WINDS);
        gives(x, "99 against 98: from north alone", x.leaving(99), 1);
        gives(x, "turn", x.turn(0, 15), 15);
        gives(x, "from the last DIRECTION alone", x.leaving(99), 1 << 15);
        takes(x, "a wind that blows does not matter", x.wind(0, 3, 99));
        gives(x, "from the last DIRECTION alone", x.leaving(99), 1 << 15);
        gives(x, "nor does it change", x.windAt(0, 0), 3);
        takes(x, "hold", x.hold(0, true));
        gives(x, "held: all", x.leaving(99), ALL_WINDS);
        VaneTown none = new VaneTown();
        gives(none, "of no vanes: all", none.leaving(1), ALL_WINDS);
        VaneTown y = Check.town("place p;place q;vane a teeth 16 at p;vane b teeth 16 at q points 8;");
        gives(y, "at all PLACES: there is none from which both are RIGHT", y.leaving(1), 0);
        takes(y, "hold", y.hold(1, true));
        gives(y, "a alone", y.leaving(1), 1);
    }

    private static void knowing() {
        edge(47, "KNOWING (1; 6: there is none).");
        VaneTown none = new VaneTown();
        beyond(none, "strong", n -> none.knowing(n), 1, 99);
        refuses(none, "of no SHAFTS", none.knowing(1), 6);
        refuses(none, "of no SHAFTS", none.knowing(99), 6);
        VaneTown x = Check.town(PAIR);
        bounds(x, "strong", n -> x.knowing(n), 1, 99);
        edge(47, "KNOWING: the SHAFT (not LIFTED) which, if it were LIFTED, would leave the fewest LEAVING winds: of several the first, "
                + "but none at all if that is not fewer than now.");
        gives(x, "each takes the other as much farther: all now", x.leaving(9), ALL_WINDS);
        gives(x, "none if it is lifted", x.knowing(9), 0);
        gives(x, "it is not lifted by it", x.told(4), 0);
        takes(x, "lift", x.lift(0, true));
        refuses(x, "lifted", x.knowing(9), 6);
        takes(x, "lower", x.lift(0, false));
        takes(x, "hold", x.hold(0, true));
        takes(x, "hold", x.hold(1, true));
        refuses(x, "as many as now", x.knowing(9), 6);
        // c, too stiff to be turned, holds a, b; d, e are of few teeth, so that more winds leave them.
        String stiff = "place p;vane a teeth 16 at p;vane b teeth 16 at p;vane c teeth 8 at p stiff 99;vane d teeth 4 at p;";
        VaneTown y = Check.town(stiff + "belt g of d c;belt h of a c;belt i of b c;");
        gives(y, "d leaves 4, a or b leaves 1: the first of these", y.knowing(1), 1);
        takes(y, "lift", y.lift(1, true));
        refuses(y, "a leaves 1 now; none is fewer", y.knowing(1), 6);
        y = Check.town(stiff + "belt g of d c;belt h of a c slack 9;");
        refuses(y, "b turns anyway: 1", y.knowing(1), 6);
    }

    private static void see(VaneTown x, int tray, int... teeth) {
        for (int i = 0; i < teeth.length; i++) {
            x.write(tray, i, teeth[i]);
        }
    }

    private static void seenIsAsked() {
        edge(48, "WHOLE by so many rows (1 to 15) in a TRAY (1; 2; 3; 5: no tooth of that VANE; asked in this order).");
        VaneTown x = Check.town("place p;vane a teeth 8 at p;vane b teeth 4 at p;");
        beyond(x, "rows, the tray missing", n -> x.whole(0, n), 1, 15);
        beyond(x, "tray", n -> x.whole(n, 1), 0, 3);
        refuses(x, "missing", x.whole(0, 15), 2);
        refuses(x, "missing", x.whole(0, 1), 2);
        takes(x, "29 of 30", x.tray(0, 0, 29));
        see(x, 0, 8);
        beyond(x, "rows ahead of teeth", n -> x.whole(0, n), 1, 15);
        refuses(x, "too few ahead of no tooth", x.whole(0, 15), 3);
        refuses(x, "no tooth", x.whole(0, 14), 5);
        takes(x, "30 of 30", x.tray(0, 0, 30));
        bounds(x, "rows", n -> x.whole(0, n), 1, 15);
        int[][] wrong = {{0, 8}, {0, -1}, {1, 4}, {1, -1}, {28, 8}, {29, 4}, {29, -128}};
        for (int[] row : wrong) {
            long was = x.read(0, row[0]);
            takes(x, "write", x.write(0, row[0], row[1]));
            refuses(x, "no tooth at " + row[0], x.whole(0, 15), 5);
            refuses(x, "no tooth at " + row[0], x.broken(0, 15), 5);
            takes(x, "write", x.write(0, row[0], was));
        }
        takes(x, "the last teeth", x.write(0, 28, 7));
        takes(x, "the last teeth", x.write(0, 29, 3));
        gives(x, "teeth that can be", x.whole(0, 15), 0);
        takes(x, "what is behind does not matter", x.write(0, 2, 99));
        gives(x, "one row", x.whole(0, 1), 1);
        refuses(x, "two rows", x.whole(0, 2), 5);
        takes(x, "a tray of 64 bits", x.tray(1, 3, 2));
        takes(x, "far", x.write(1, 1, 1L << 32));
        refuses(x, "far", x.whole(1, 1), 5);
        takes(x, "a tray of one", x.tray(2, 2, 1));
        refuses(x, "one of two", x.whole(2, 1), 3);
        edge(49, "BROKEN: a set (likewise).");
        VaneTown y = Check.town(PAIR);
        beyond(y, "rows, the tray missing", n -> y.broken(0, n), 1, 15);
        beyond(y, "tray", n -> y.broken(n, 1), 0, 3);
        refuses(y, "missing", y.broken(0, 15), 2);
        takes(y, "29 of 30", y.tray(0, 1, 29));
        see(y, 0, -1);
        refuses(y, "too few ahead of no tooth", y.broken(0, 15), 3);
        refuses(y, "no tooth", y.broken(0, 14), 5);
        takes(y, "30 of 30", y.tray(0, 1, 30));
        bounds(y, "rows", n -> y.broken(0, n), 1, 15);
    }

    private static void whole() {
        edge(48, "SEEN in a TRAY: so many rows, one behind the other, of where all VANES POINT, 1, 2, .. QUARTERS AHEAD.");
        VaneTown x = Check.town("place p;vane a teeth 60 at p;vane b teeth 9 at p;");
        takes(x, "wind", x.wind(0, 8, 1));
        takes(x, "tray", x.tray(0, 0, 60));
        int[] ofB = {8, 7, 6, 5, 5, 5, 5, 5, 5, 5, 5, 5, 5, 5, 5};
        for (int r = 0; r < 15; r++) {
            takes(x, "write", x.write(0, 2 * r, r + 1));
            takes(x, "write", x.write(0, 2 * r + 1, ofB[r]));
        }
        edge(48, "WHOLE: 1, if it is so without.");
        for (int rows = 1; rows <= 15; rows++) {
            gives(x, rows + " rows", x.whole(0, rows), 1);
        }
        takes(x, "the last is not so", x.write(0, 29, 4));
        gives(x, "14 rows", x.whole(0, 14), 1);
        gives(x, "15 rows", x.whole(0, 15), 0);
        takes(x, "write", x.write(0, 29, 5));
        takes(x, "the first is not so: as it is now", x.write(0, 0, 0));
        gives(x, "1 row", x.whole(0, 1), 0);
        gives(x, "15 rows", x.whole(0, 15), 0);
        point(x, "nothing was turned", 0, 0);
        VaneTown none = new VaneTown();
        takes(none, "a tray of none", none.tray(0, 0, 0));
        gives(none, "of no vanes", none.whole(0, 15), 1);
        VaneTown eight = Check.town(EdgesOfWhatIsTold.fullTown());
        takes(eight, "tray", eight.tray(0, 0, 60));
        gives(eight, "7 rows of 8: 56", eight.whole(0, 7), 1);
        refuses(eight, "8 rows of 8: 64", eight.whole(0, 8), 3);
        refuses(eight, "8 rows of 8: 64", eight.broken(0, 8), 3);
    }

    private static void broken() {
        edge(49, "BROKEN: the set of SHAFTS (not LIFTED) each of which, alone LIFTED from now on, would make it so;");
        VaneTown x = Check.town("place p;place q;vane a teeth 8 at p;vane b teeth 8 at q;vane c teeth 8 at q;"
                + "belt g of a b;belt h of b c;belt i of a c slack 9;");
        takes(x, "lift", x.lift(2, true));
        takes(x, "wind", x.wind(0, 4, 9));
        takes(x, "tray", x.tray(3, 2, 6));
        see(x, 3, 1, 0, 0, 2, 0, 0);
        gives(x, "a alone: the first", x.broken(3, 2), 1);
        gives(x, "not so without", x.whole(3, 2), 0);
        see(x, 3, 1, 1, 0, 2, 2, 0);
        gives(x, "a and b: the second", x.broken(3, 2), 2);
        see(x, 3, 1, 1, 1, 2, 2, 2);
        gives(x, "all: none", x.broken(3, 2), 0);
        gives(x, "so without", x.whole(3, 2), 1);
        see(x, 3, 1, 0, 0, 2, 0, 1);
        gives(x, "the last is not so", x.broken(3, 2), 0);
        gives(x, "one row", x.broken(3, 1), 1);
        takes(x, "calm", x.wind(0, 4, 0));
        see(x, 3, 0, 0, 0, 0, 0, 0);
        gives(x, "calm: each that is not lifted", x.broken(3, 2), 3);
        gives(x, "none is lifted by it", x.told(4), 4);
        VaneTown none = new VaneTown();
        takes(none, "a tray of none", none.tray(0, 0, 0));
        gives(none, "of no SHAFTS", none.broken(0, 15), 0);
    }
}
