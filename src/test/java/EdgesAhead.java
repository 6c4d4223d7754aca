/** Edges of promises 30 to 43 and 45: what will be if the winds stay as they are. */
final class EdgesAhead extends Edges {
    private static final String FREE = "place p;vane a teeth 8 at p;vane b teeth 60 at p points 10;";
    private static final String PAIR = "place p;place q;vane a teeth 8 at p;vane b teeth 8 at q;";

    private EdgesAhead() {
    }

    static void all() {
        points();
        rights();
        again();
        strikes();
        bell();
        wrong();
        holding();
        helpers();
        firstToTurn();
        heaviest();
        farthest();
        calmed();
        longWay();
        teeth();
        fullAndLesser();
        bestWind();
        mending();
    }

    private static void points() {
        edge(30, "Where a VANE POINTS so many QUARTERS AHEAD (1).");
        VaneTown x = Check.town(FREE);
        takes(x, "wind", x.wind(0, 8, 1));
        bounds(x, "vane", n -> x.points(n, 0), 0, 1);
        edge(30, "AHEAD (0 to 400) QUARTERS: what will be if the winds stay as they are.");
        bounds(x, "ahead", n -> x.points(0, n), 0, 400);
        int[][] due = {{0, 0, 10}, {1, 1, 11}, {4, 4, 14}, {5, 4, 15}, {19, 4, 29}, {20, 4, 30}, {21, 4, 30}, {400, 4, 30}};
        for (int[] row : due) {
            gives(x, "a, " + row[0] + " ahead", x.points(0, row[0]), row[1]);
            gives(x, "b, " + row[0] + " ahead", x.points(1, row[0]), row[2]);
        }
        gives(x, "no QUARTER went by", x.told(3), 0);
        point(x, "nothing turned", 0, 10);
        takes(x, "hold", x.hold(0, true));
        gives(x, "a held one stays", x.points(0, 400), 0);
        takes(x, "calm", x.wind(0, 8, 0));
        gives(x, "at calm all stay", x.points(1, 400), 10);
    }

    private static void rights() {
        edge(31, "The set of VANES that are RIGHT then (1).");
        VaneTown x = Check.town(FREE);
        bounds(x, "ahead", n -> x.rights(n), 0, 400);
        gives(x, "all at calm", x.rights(0), 3);
        takes(x, "wind", x.wind(0, 8, 1));
        int[][] due = {{0, 0}, {3, 0}, {4, 1}, {19, 1}, {20, 3}, {400, 3}};
        for (int[] row : due) {
            gives(x, row[0] + " ahead", x.rights(row[0]), row[1]);
        }
        takes(x, "from the north: a is right now", x.wind(0, 0, 1));
        gives(x, "now", x.rights(0), 1);
        gives(x, "9 ahead", x.rights(9), 1);
        gives(x, "10 ahead", x.rights(10), 3);
    }

    private static void again() {
        edge(32, "AGAIN, what 0: a, 1: the PERIOD (1; 6: not to 400).");
        VaneTown x = Check.town(FREE);
        bounds(x, "what", n -> x.again(n), 0, 1);
        edge(32, "AGAIN: the first a, and the least b above it (to 400), such that all VANES POINT, and all PLAY is, with b AHEAD as with a: "
                + "the PERIOD is b less a.");
        gives(x, "calm: 0", x.again(0), 0);
        gives(x, "and 1", x.again(1), 1);
        takes(x, "wind", x.wind(0, 8, 1));
        gives(x, "still behind 20", x.again(0), 20);
        gives(x, "and 21", x.again(1), 1);
        takes(x, "hold", x.hold(1, true));
        gives(x, "still behind 4", x.again(0), 4);
        // The whole of PLAY is gone through as well, though the first vane is right all along.
        VaneTown y = Check.town(PAIR + "belt h of a b slack 3;");
        takes(y, "wind", y.wind(1, 12, 1));
        gives(y, "b to the left, 2 of 3 SLACK", y.again(0), 2);
        gives(y, "PERIOD", y.again(1), 1);
        VaneTown none = new VaneTown();
        gives(none, "of no vanes", none.again(0), 0);
        gives(none, "of no vanes", none.again(1), 1);
    }

    private static void strikes() {
        edge(33, "How often a VANE STRIKES in so many QUARTERS (1).");
        VaneTown x = Check.town(FREE);
        takes(x, "wind", x.wind(0, 0, 1));
        bounds(x, "vane", n -> x.strikes(n, 1), 0, 1);
        edge(33, "STRIKES in so many QUARTERS (1 to 400) from now on;");
        bounds(x, "quarters", n -> x.strikes(1, n), 1, 400);
        gives(x, "b at 1", x.strikes(1, 9), 0);
        gives(x, "b at 0", x.strikes(1, 10), 1);
        gives(x, "b stays there", x.strikes(1, 400), 1);
        gives(x, "a is there", x.strikes(0, 400), 0);
        gives(x, "pass", x.pass(9), 9);
        gives(x, "one from now on", x.strikes(1, 1), 1);
        gives(x, "pass", x.pass(1), 10);
        gives(x, "it struck", x.vane(1, 5), 1);
        gives(x, "none from now on", x.strikes(1, 400), 0);
    }

    private static void bell() {
        edge(34, "Which VANE is the k-th to STRIKE in so many QUARTERS (1; 6: there are not so many).");
        VaneTown x = Check.town("place p;vane a teeth 4 at p points 2;vane b teeth 4 at p points 1;");
        refuses(x, "calm: none", x.bell(0, 400), 6);
        refuses(x, "1 ahead of 6", x.bell(0, 401), 1);
        takes(x, "wind", x.wind(0, 0, 1));
        bounds(x, "quarters", n -> x.bell(0, n), 1, 400);
        gives(x, "the first in 1", x.bell(0, 1), 1);
        refuses(x, "the second is not in 1", x.bell(1, 1), 6);
        gives(x, "the second in 2", x.bell(1, 2), 0);
        refuses(x, "there is no third", x.bell(2, 400), 6);
        refuses(x, "nor so many", x.bell(Integer.MAX_VALUE, 400), 6);
        refuses(x, "k below 0", x.bell(-1, 400), 1);
        refuses(x, "k far below 0", x.bell(Integer.MIN_VALUE, 400), 1);
        edge(34, "the k-th bell that STRIKES (in one QUARTER as they come to be turned: of those that turn together the least VANE first).");
        VaneTown y = Check.town("place p;place q;vane a teeth 4 at p points 3;vane b teeth 4 at p points 3;vane c teeth 4 at q points 3;"
                + "vane d teeth 4 at q points 1;vane e teeth 4 at p points 3;belt g of c a;gear h of d e;");
        takes(y, "wind", y.wind(0, 0, 5));
        int[] order = {0, 2, 1, 3, 4};
        for (int k = 0; k < 5; k++) {
            gives(y, "a with c, b, then e with d: bell " + k, y.bell(k, 1), order[k]);
        }
        refuses(y, "no sixth", y.bell(5, 400), 6);
        gives(y, "pass", y.pass(1), 1);
        refuses(y, "from now on there is none", y.bell(0, 400), 6);
    }

    private static void wrong() {
        edge(35, "WRONG (1: QUARTERS 1 to 400).");
        VaneTown x = Check.town(FREE);
        takes(x, "wind", x.wind(0, 8, 1));
        bounds(x, "vane", n -> x.wrong(n, 1), 0, 1);
        bounds(x, "quarters", n -> x.wrong(0, n), 1, 400);
        edge(35, "WRONG of a VANE: in how many of so many QUARTERS AHEAD (1, 2 ..) it is not RIGHT.");
        int[][] due = {{1, 1, 1}, {3, 3, 3}, {4, 3, 4}, {19, 3, 19}, {20, 3, 19}, {400, 3, 19}};
        for (int[] row : due) {
            gives(x, "a in " + row[0], x.wrong(0, row[0]), row[1]);
            gives(x, "b in " + row[0], x.wrong(1, row[0]), row[2]);
        }
        takes(x, "a tooth to the right", x.wind(0, 2, 1));
        gives(x, "wrong now, right in 1", x.wrong(0, 400), 0);
        takes(x, "hold", x.hold(0, true));
        gives(x, "held: always", x.wrong(0, 400), 400);
        takes(x, "calm", x.wind(0, 8, 0));
        gives(x, "calm: never", x.wrong(0, 400), 0);
    }

    private static void holding() {
        edge(36, "COST of HOLDING a VANE, over so many QUARTERS (1 to 400); STATUS tells NONE from -1 (1).");
        VaneTown x = Check.town(PAIR + "belt h of a b;");
        takes(x, "wind", x.wind(0, 4, 6));
        takes(x, "wind", x.wind(1, 0, 5));
        bounds(x, "vane", n -> x.holding(n, 1), 0, 1);
        bounds(x, "quarters", n -> x.holding(0, n), 1, 400);
        gives(x, "-1: b is not dragged off", x.holding(0, 1), -1);
        refuses(x, "-1: NONE", x.holding(2, 1), 1);
        edge(36, "COST of HOLDING one: by how many more all others are WRONG together, if it were HELD from now on (less, too).");
        gives(x, "less", x.holding(0, 400), -400);
        gives(x, "more: a can't turn, else right in 2", x.holding(1, 400), 399);
        gives(x, "none is held", x.told(5), 0);
        takes(x, "hold", x.hold(0, true));
        gives(x, "held already", x.holding(0, 400), 0);
        VaneTown y = Check.town("place p;vane a teeth 8 at p;");
        takes(y, "wind", y.wind(0, 8, 1));
        gives(y, "no others", y.holding(0, 400), 0);
        y = Check.town("place p;place q;vane a teeth 8 at p;vane b teeth 8 at q;vane c teeth 8 at q;belt h of a b;belt i of b c;");
        takes(y, "wind", y.wind(0, 4, 9));
        takes(y, "wind", y.wind(1, 0, 4));
        gives(y, "two others together", y.holding(0, 3), -6);
    }

    private static void helpers() {
        edge(37, "HELPERS (1; 6: it is RIGHT; 7: BLOCKED).");
        VaneTown x = Check.town("place p;place q;vane a teeth 8 at p;vane b teeth 8 at p;vane c teeth 8 at p points 4;"
                + "vane d teeth 8 at q;belt g of a b;belt h of b c;belt i of c d;");
        beyond(x, "vane", n -> x.helpers(n), 0, 3);
        refuses(x, "calm is RIGHT", x.helpers(0), 6);
        takes(x, "hold", x.hold(3, true));
        refuses(x, "RIGHT ahead of BLOCKED", x.helpers(3), 6);
        takes(x, "wind", x.wind(0, 4, 1));
        refuses(x, "blocked", x.helpers(0), 7);
        takes(x, "wind", x.wind(1, 4, 1));
        refuses(x, "blocked by itself", x.helpers(3), 7);
        takes(x, "free", x.hold(3, false));
        bounds(x, "vane", n -> x.helpers(n), 0, 3);
        edge(37, "HELPERS of a VANE: those others that, DRAGGED along as it turns by a tooth the shorter way to what it WANTS, "
                + "come nearer to what they WANT (not at calm).");
        gives(x, "b, d: c goes farther", x.helpers(0), 10);
        gives(x, "a, d", x.helpers(1), 9);
        gives(x, "c turns to the left: none", x.helpers(2), 0);
        gives(x, "a, b", x.helpers(3), 3);
        takes(x, "d at calm", x.wind(1, 4, 0));
        gives(x, "b alone", x.helpers(0), 2);
        takes(x, "from 2: tooth 1", x.wind(0, 2, 1));
        gives(x, "they come there by it", x.helpers(0), 2);
        VaneTown y = Check.town("place p;place q;vane a teeth 8 at p;vane b teeth 5 at q points 2;belt g of a b;");
        takes(y, "wind", y.wind(0, 4, 1));
        takes(y, "wind", y.wind(1, 0, 1));
        gives(y, "2 of 5 and 3 of 5 are as far from 0", y.helpers(0), 0);
        y = Check.town("place p;place q;vane a teeth 8 at p;vane b teeth 4 at q points 2;belt g of a b slack 1;");
        takes(y, "wind", y.wind(0, 4, 1));
        takes(y, "wind", y.wind(1, 0, 1));
        gives(y, "b is not dragged", y.helpers(0), 0);
        gives(y, "turn", y.turn(0, 1), 1);
        gives(y, "2 of 4 comes nearer either way", y.helpers(0), 2);
    }

    private static void firstToTurn() {
        edge(38, "FIRST TO TURN (6: nothing turns).");
        VaneTown none = new VaneTown();
        refuses(none, "of no vanes", none.firstToTurn(), 6);
        VaneTown x = Check.town("place p;vane a teeth 8 at p stiff 5;vane b teeth 8 at p stiff 4;vane c teeth 8 at p;");
        refuses(x, "calm", x.firstToTurn(), 6);
        takes(x, "from the north", x.wind(0, 0, 99));
        refuses(x, "all RIGHT", x.firstToTurn(), 6);
        edge(38, "FIRST TO TURN: the first VANE that turns anything in the QUARTER that comes.");
        int[][] due = {{4, 2}, {5, 1}, {6, 0}};
        for (int[] row : due) {
            takes(x, "wind", x.wind(0, 4, row[0]));
            gives(x, row[0] + " strong", x.firstToTurn(), row[1]);
        }
        point(x, "nothing is turned by it", 0, 0, 0);
        takes(x, "hold", x.hold(0, true));
        gives(x, "the next", x.firstToTurn(), 1);
        takes(x, "hold", x.hold(1, true));
        gives(x, "the last", x.firstToTurn(), 2);
        takes(x, "hold", x.hold(2, true));
        refuses(x, "all HELD", x.firstToTurn(), 6);
        VaneTown y = Check.town(PAIR + "belt h of a b;");
        takes(y, "wind", y.wind(1, 4, 1));
        gives(y, "the one that turns, not the one dragged", y.firstToTurn(), 1);
    }

    private static void heaviest() {
        edge(39, "HEAVIEST (6: none can turn).");
        VaneTown none = new VaneTown();
        refuses(none, "of no vanes", none.heaviest(), 6);
        VaneTown x = Check.town("place p;vane a teeth 8 at p;vane b teeth 8 at p;vane c teeth 8 at p;belt g of b c slack 1;");
        edge(39, "HEAVIEST: the VANE that DRAGS the most along (itself counted) by one of both ways that is not BLOCKED;");
        gives(x, "b to the left with c, c to the right with b: the first", x.heaviest(), 1);
        takes(x, "hold", x.hold(2, true));
        gives(x, "one each: the first", x.heaviest(), 0);
        takes(x, "hold", x.hold(0, true));
        gives(x, "b to the right alone", x.heaviest(), 1);
        gives(x, "turn", x.turn(1, 1), 1);
        gives(x, "b to the left alone", x.heaviest(), 1);
        takes(x, "hold", x.hold(1, true));
        refuses(x, "all HELD", x.heaviest(), 6);
        VaneTown y = Check.town(PAIR + "gear g of a b;belt h of a b;");
        refuses(y, "all BLOCKED", y.heaviest(), 6);
        takes(y, "lift", y.lift(1, true));
        gives(y, "of several the first", y.heaviest(), 0);
        VaneTown z = Check.town("place p;vane a teeth 8 at p;vane b teeth 8 at p;vane c teeth 8 at p;belt g of b c;");
        gives(z, "by both ways", z.heaviest(), 1);
    }

    private static void farthest() {
        edge(40, "FARTHEST (6: all are RIGHT).");
        VaneTown none = new VaneTown();
        refuses(none, "of no vanes", none.farthest(), 6);
        VaneTown x = Check.town("place p;place q;vane a teeth 8 at p points 1;vane b teeth 8 at p points 7;vane c teeth 60 at q points 59;");
        refuses(x, "calm", x.farthest(), 6);
        edge(40, "FARTHEST: the one that is the most teeth (the shorter way) from what it WANTS; of several the first.");
        takes(x, "wind", x.wind(0, 0, 1));
        gives(x, "one tooth each", x.farthest(), 0);
        takes(x, "wind", x.wind(0, 14, 1));
        gives(x, "2 teeth over north, b is RIGHT", x.farthest(), 0);
        takes(x, "wind", x.wind(0, 2, 1));
        gives(x, "a is RIGHT, b 2 teeth over north", x.farthest(), 1);
        takes(x, "wind", x.wind(1, 0, 1));
        gives(x, "c is 1 tooth from north, not 59", x.farthest(), 1);
        takes(x, "wind", x.wind(1, 1, 1));
        gives(x, "c is 5 teeth", x.farthest(), 2);
        takes(x, "hold", x.hold(2, true));
        gives(x, "HELD or not", x.farthest(), 2);
        VaneTown y = Check.town("place p;vane a teeth 8 at p;vane b teeth 9 at p;vane c teeth 60 at p points 1;");
        takes(y, "wind", y.wind(0, 8, 1));
        gives(y, "4 of 8, 4 of 9, 29 of 60", y.farthest(), 2);
        takes(y, "hold", y.hold(2, true));
        takes(y, "wind", y.wind(0, 0, 1));
        gives(y, "the others are RIGHT", y.farthest(), 2);
    }

    private static void calmed() {
        edge(41, "CALMED (6: not in 400 QUARTERS).");
        VaneTown none = new VaneTown();
        gives(none, "of no vanes", none.calmed(), 0);
        edge(41, "CALMED: the first QUARTER AHEAD (0: the one that comes) in which nothing turns.");
        VaneTown x = Check.town(FREE);
        gives(x, "calm: the one that comes", x.calmed(), 0);
        takes(x, "wind", x.wind(0, 8, 1));
        gives(x, "20 in which b turns", x.calmed(), 20);
        gives(x, "pass", x.pass(19), 19);
        gives(x, "one more", x.calmed(), 1);
        gives(x, "pass", x.pass(1), 20);
        gives(x, "none", x.calmed(), 0);
        VaneTown y = Check.town("place p;vane a teeth 60 at p;");
        takes(y, "wind", y.wind(0, 8, 1));
        gives(y, "30 of 60", y.calmed(), 30);
    }

    /** The longest way to a standstill that a search has found: one vane after the other lets the next one go. */
    private static void longWay() {
        edge(41, "not in 400 QUARTERS");
        VaneTown x = Check.town("place pa;place pb;place pc;place pd;vane va teeth 27 at pa points 22;vane vb teeth 36 at pa points 1;"
                + "vane vc teeth 36 at pd points 10;vane vd teeth 31 at pb points 18;vane ve teeth 45 at pa stiff 1 points 15;"
                + "vane vf teeth 60 at pd points 11;vane vg teeth 60 at pc stiff 2 points 4;vane vh teeth 38 at pb points 7;"
                + "gear sa of va vb slack 9;gear sb of vg vf slack 9;belt sc of vg vc slack 6;belt sd of vg vc slack 7;"
                + "belt se of vg vc slack 6;gear sf of vg vf slack 9;gear sg of vc vh slack 9;gear sh of vd vg slack 9;"
                + "gear si of ve vb slack 9;belt sj of vd va slack 9;");
        int[][] winds = {{13, 4}, {1, 14}, {10, 50}, {9, 64}};
        for (int p = 0; p < 4; p++) {
            takes(x, "wind", x.wind(p, winds[p][0], winds[p][1]));
        }
        gives(x, "calmed", x.calmed(), 135);
        edge(32, "and the least b above it (to 400)");
        gives(x, "again", x.again(0), 135);
        gives(x, "its PERIOD", x.again(1), 1);
        gives(x, "teeth are turned in the last of them", x.teeth(135) - x.teeth(134) > 0 ? 1 : 0, 1);
        gives(x, "none behind it", x.teeth(400) - x.teeth(135), 0);
        gives(x, "pass", x.pass(99), 99);
        gives(x, "what is left of it", x.calmed(), 36);
        gives(x, "pass", x.pass(36), 135);
        gives(x, "nothing", x.again(0), 0);
    }

    private static void teeth() {
        edge(42, "How many teeth all are turned in so many QUARTERS (1).");
        VaneTown x = Check.town(FREE);
        takes(x, "wind", x.wind(0, 8, 1));
        bounds(x, "quarters", n -> x.teeth(n), 1, 400);
        int[][] due = {{1, 2}, {4, 8}, {5, 9}, {20, 24}, {21, 24}, {400, 24}};
        for (int[] row : due) {
            gives(x, "in " + row[0], x.teeth(row[0]), row[1]);
        }
        gives(x, "pass", x.pass(3), 3);
        gives(x, "from now on", x.teeth(400), 18);
        VaneTown y = Check.town(PAIR + "belt h of a b;");
        takes(y, "wind", y.wind(0, 4, 1));
        gives(y, "those that are dragged, too", y.teeth(1), 2);
        VaneTown none = new VaneTown();
        gives(none, "of no vanes", none.teeth(400), 0);
    }

    /** As many vanes and shafts as there may be, and then fewer: nothing is asked of what is not there. */
    private static void fullAndLesser() {
        edge(30, "what will be if the winds stay as they are.");
        VaneTown x = Check.town(EdgesOfWhatIsTold.fullTown());
        for (int s = 0; s < 10; s++) {
            takes(x, "lift", x.lift(s, true));
        }
        for (int p = 0; p < 4; p++) {
            takes(x, "wind", x.wind(p, 4, 1 + p));
        }
        gives(x, "all are wrong", x.rights(0), 0);
        gives(x, "all are right", x.rights(2), 255);
        gives(x, "two each", x.teeth(400), 16);
        gives(x, "the first", x.firstToTurn(), 0);
        gives(x, "the first", x.farthest(), 0);
        gives(x, "the first", x.heaviest(), 0);
        gives(x, "two", x.calmed(), 2);
        gives(x, "none is dragged", x.helpers(7), 0);
        gives(x, "pass", x.pass(2), 2);
        refuses(x, "none of eight", x.firstToTurn(), 6);
        refuses(x, "none of eight", x.farthest(), 6);
        gives(x, "none of eight", x.calmed(), 0);
        takes(x, "wind", x.wind(3, 0, 1));
        gives(x, "vd, vh", x.rights(0), 255 - 8 - 128);
        gives(x, "the first of two", x.farthest(), 3);
        gives(x, "pass", x.pass(2), 4);
        gives(x, "one that is RIGHT, in place of eight that were not",
                Check.village(x, "place p;vane a teeth 8 at p;"), 1);
        refuses(x, "nothing of those ahead", x.firstToTurn(), 6);
        refuses(x, "nothing of those ahead", x.farthest(), 6);
        gives(x, "nothing of those ahead", x.heaviest(), 0);
        gives(x, "nothing of those ahead", x.rights(400), 1);
        gives(x, "nothing of those ahead", x.calmed(), 0);
    }

    private static void bestWind() {
        edge(43, "BEST WIND, so STRONG (1 to 99) (1).");
        VaneTown x = Check.town("place p;place q;vane a teeth 8 at p stiff 9 points 3;vane b teeth 8 at q points 3;vane c teeth 8 at q points 1;");
        bounds(x, "strong", n -> x.bestWind(n, 0), 1, 99);
        bounds(x, "ahead", n -> x.bestWind(1, n), 0, 400);
        edge(43, "BEST WIND: the DIRECTION with which, so STRONG from now on everywhere, the most VANES are RIGHT so many QUARTERS AHEAD: "
                + "of several the least.");
        gives(x, "now a and b, from 5 and 6", x.bestWind(9, 0), 5);
        gives(x, "a does not turn by 9", x.bestWind(9, 400), 5);
        gives(x, "all come anywhere by 10", x.bestWind(10, 400), 0);
        gives(x, "in 1 all come to 2, from 3 and 4", x.bestWind(10, 1), 3);
        gives(x, "in 2 all come to 1, from 1 and 2", x.bestWind(10, 2), 1);
        gives(x, "no wind blows by it", x.windAt(0, 1), 0);
        VaneTown y = Check.town("place p;vane a teeth 16 at p points 15;");
        gives(y, "the last DIRECTION", y.bestWind(1, 0), 15);
        VaneTown none = new VaneTown();
        gives(none, "of no vanes: the least", none.bestWind(99, 400), 0);
    }

    private static void mending() {
        edge(45, "MENDING (1; 6).");
        VaneTown none = new VaneTown();
        beyond(none, "ahead", n -> none.mending(n), 0, 400);
        refuses(none, "of no SHAFTS", none.mending(0), 6);
        refuses(none, "of no SHAFTS", none.mending(400), 6);
        edge(45, "MENDING: the SHAFT, not LIFTED, by whose LIFTING from now on the most are RIGHT so many QUARTERS AHEAD, "
                + "if these are more than without: of several the first.");
        VaneTown x = Check.town(PAIR + "belt g of a b slack 9;belt h of a b;");
        takes(x, "wind", x.wind(0, 4, 9));
        takes(x, "wind", x.wind(1, 12, 1));
        refuses(x, "now", x.mending(0), 6);
        refuses(x, "in 1", x.mending(1), 6);
        gives(x, "in 2 b is right, too", x.mending(2), 1);
        gives(x, "in 400", x.mending(400), 1);
        gives(x, "none is lifted by it", x.told(4), 0);
        takes(x, "lift", x.lift(1, true));
        refuses(x, "not the one that is lifted; the other does nothing", x.mending(400), 6);
        VaneTown y = Check.town(PAIR + "vane c teeth 8 at q;belt g of a b;belt h of a c;");
        takes(y, "wind", y.wind(0, 4, 9));
        takes(y, "wind", y.wind(1, 12, 1));
        gives(y, "each frees one: the first", y.mending(400), 0);
        y = Check.town(PAIR + "vane c teeth 8 at q;belt h of b c;belt g of a b;");
        takes(y, "wind", y.wind(0, 4, 9));
        takes(y, "wind", y.wind(1, 12, 1));
        gives(y, "the first frees one, the second two", y.mending(400), 1);
    }
}
