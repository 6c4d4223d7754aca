/** Promises 30 to 43 and 45: what will be if the winds stay as they are. */
public final class AheadTest {
    private static final String FREE = "place p;vane a teeth 8 at p;vane b teeth 60 at p points 10;";
    private static final String PAIR = "place p;place q;vane a teeth 8 at p;vane b teeth 8 at q;";

    public static void main(String[] args) {
        pointsAndRights();
        againAndCalmed();
        strikesAndBells();
        bellsInOrder();
        wrong();
        holding();
        helpers();
        firstToTurn();
        heaviest();
        farthest();
        teeth();
        bestWind();
        mending();
        nothingIsChanged();
        Check.end("AheadTest");
    }

    private static void pointsAndRights() {
        VaneTown x = Check.town(FREE);
        x.wind(0, 8, 1);
        Check.gives(x, "now", x.points(1, 0), 10);
        Check.gives(x, "a in 3", x.points(0, 3), 3);
        Check.gives(x, "a in 5", x.points(0, 5), 4);
        Check.gives(x, "b in 3", x.points(1, 3), 13);
        Check.gives(x, "b in 400", x.points(1, 400), 30);
        Check.gives(x, "now", x.rights(0), 0);
        Check.gives(x, "in 3", x.rights(3), 0);
        Check.gives(x, "in 4", x.rights(4), 1);
        Check.gives(x, "in 19", x.rights(19), 1);
        Check.gives(x, "in 20", x.rights(20), 3);
        x.wind(0, 8, 0);
        Check.gives(x, "at calm", x.rights(0), 3);
        Check.refuses(x, "points(-1)", x.points(-1, 0), 1);
        Check.refuses(x, "points(2)", x.points(2, 0), 1);
        Check.refuses(x, "points in -1", x.points(0, -1), 1);
        Check.refuses(x, "points in 401", x.points(0, 401), 1);
        Check.refuses(x, "rights(-1)", x.rights(-1), 1);
        Check.refuses(x, "rights(401)", x.rights(401), 1);
    }

    private static void againAndCalmed() {
        VaneTown x = Check.town(FREE);
        Check.gives(x, "calm", x.again(0), 0);
        Check.gives(x, "calm", x.again(1), 1);
        Check.gives(x, "calm", x.calmed(), 0);
        x.wind(0, 8, 1);
        Check.gives(x, "again", x.again(0), 20);
        Check.gives(x, "period", x.again(1), 1);
        Check.gives(x, "calmed", x.calmed(), 20);
        x.hold(1, true);
        Check.gives(x, "again", x.again(0), 4);
        Check.gives(x, "calmed", x.calmed(), 4);
        Check.refuses(x, "again(-1)", x.again(-1), 1);
        Check.refuses(x, "again(2)", x.again(2), 1);
    }

    private static void strikesAndBells() {
        VaneTown x = Check.town(FREE);
        x.wind(0, 0, 1);
        Check.gives(x, "b in 9", x.strikes(1, 9), 0);
        Check.gives(x, "b in 10", x.strikes(1, 10), 1);
        Check.gives(x, "b in 400", x.strikes(1, 400), 1);
        Check.gives(x, "a in 400", x.strikes(0, 400), 0);
        Check.refuses(x, "no bell", x.bell(0, 9), 6);
        Check.gives(x, "the first", x.bell(0, 10), 1);
        Check.refuses(x, "no second", x.bell(1, 400), 6);
        x.pass(10);
        Check.gives(x, "not those that struck", x.strikes(1, 400), 0);
        Check.refuses(x, "not those that struck", x.bell(0, 400), 6);
        Check.refuses(x, "strikes(-1)", x.strikes(-1, 1), 1);
        Check.refuses(x, "strikes(2)", x.strikes(2, 1), 1);
        Check.refuses(x, "strikes in 0", x.strikes(0, 0), 1);
        Check.refuses(x, "strikes in 401", x.strikes(0, 401), 1);
        Check.refuses(x, "bell(-1)", x.bell(-1, 1), 1);
        Check.refuses(x, "bell in 0", x.bell(0, 0), 1);
        Check.refuses(x, "bell in 401", x.bell(0, 401), 1);
        Check.refuses(x, "bell far", x.bell(Integer.MAX_VALUE, 1), 6);
    }

    private static void bellsInOrder() {
        VaneTown x = Check.town("place p;place q;vane a teeth 4 at q points 1;vane b teeth 4 at p points 3;"
                + "vane c teeth 4 at p points 2;vane d teeth 4 at p points 3;gear g of b a;");
        x.wind(0, 0, 5);
        int[] order = {0, 1, 3, 2};
        for (int k = 0; k < 4; k++) {
            Check.gives(x, "bell " + k, x.bell(k, 9), order[k]);
        }
        Check.refuses(x, "bell 4", x.bell(4, 9), 6);
        Check.gives(x, "bell 2 in 1", x.bell(2, 1), 3);
        Check.refuses(x, "bell 3 in 1", x.bell(3, 1), 6);
    }

    private static void wrong() {
        VaneTown x = Check.town(FREE);
        x.wind(0, 8, 1);
        Check.gives(x, "a in 1", x.wrong(0, 1), 1);
        Check.gives(x, "a in 3", x.wrong(0, 3), 3);
        Check.gives(x, "a in 400", x.wrong(0, 400), 3);
        Check.gives(x, "b in 5", x.wrong(1, 5), 5);
        Check.gives(x, "b in 400", x.wrong(1, 400), 19);
        x.hold(1, true);
        Check.gives(x, "b held", x.wrong(1, 400), 400);
        Check.refuses(x, "wrong(-1)", x.wrong(-1, 1), 1);
        Check.refuses(x, "wrong(2)", x.wrong(2, 1), 1);
        Check.refuses(x, "wrong in 0", x.wrong(0, 0), 1);
        Check.refuses(x, "wrong in 401", x.wrong(0, 401), 1);
    }

    private static void holding() {
        VaneTown x = Check.town(PAIR + "belt h of a b;");
        x.wind(0, 4, 6);
        x.wind(1, 12, 5);
        Check.gives(x, "a held: b is wrong anyway", x.holding(0, 4), 0);
        Check.gives(x, "b held: a is wrong 4 times, not once", x.holding(1, 4), 3);
        x.wind(1, 0, 5);
        Check.gives(x, "a held: b is not dragged off", x.holding(0, 4), -4);
        Check.gives(x, "-1 is no NONE", x.holding(0, 1), -1);
        x.hold(0, true);
        Check.gives(x, "held already", x.holding(0, 400), 0);
        Check.refuses(x, "holding(-1)", x.holding(-1, 1), 1);
        Check.refuses(x, "holding(2)", x.holding(2, 1), 1);
        Check.refuses(x, "holding in 0", x.holding(0, 0), 1);
        Check.refuses(x, "holding in 401", x.holding(0, 401), 1);
    }

    private static void helpers() {
        VaneTown x = Check.town("place p;place q;vane a teeth 8 at p;vane b teeth 8 at p;vane c teeth 8 at p points 4;"
                + "vane d teeth 8 at q;belt g of a b;belt h of b c;belt i of c d;");
        Check.refuses(x, "calm", x.helpers(0), 6);
        x.wind(0, 4, 1);
        Check.gives(x, "b alone", x.helpers(0), 2);
        Check.gives(x, "a alone", x.helpers(1), 1);
        Check.gives(x, "c takes both farther", x.helpers(2), 0);
        Check.refuses(x, "d is at calm", x.helpers(3), 6);
        x.wind(1, 3, 9);
        Check.gives(x, "b and d", x.helpers(0), 2 + 8);
        x.hold(3, true);
        Check.refuses(x, "blocked", x.helpers(0), 7);
        x.turn(3, 1);
        Check.refuses(x, "a held one itself", x.helpers(3), 7);
        Check.refuses(x, "helpers(-1)", x.helpers(-1), 1);
        Check.refuses(x, "helpers(4)", x.helpers(4), 1);
    }

    private static void firstToTurn() {
        VaneTown x = Check.town("place p;vane a teeth 8 at p stiff 5;vane b teeth 8 at p stiff 4;vane c teeth 8 at p;");
        Check.refuses(x, "calm", x.firstToTurn(), 6);
        x.wind(0, 4, 4);
        Check.gives(x, "c", x.firstToTurn(), 2);
        x.wind(0, 4, 5);
        Check.gives(x, "b", x.firstToTurn(), 1);
        x.hold(1, true);
        Check.gives(x, "b held", x.firstToTurn(), 2);
        x.wind(0, 0, 5);
        Check.refuses(x, "all right", x.firstToTurn(), 6);
    }

    private static void heaviest() {
        VaneTown x = Check.town("place p;vane a teeth 8 at p;vane b teeth 8 at p;vane c teeth 8 at p;"
                + "vane d teeth 8 at p;vane e teeth 8 at p;gear g of a b slack 1;gear h of c d;gear i of d e slack 2;");
        Check.gives(x, "c, to the right", x.heaviest(), 2);
        x.lift(2, true);
        Check.gives(x, "of several the first", x.heaviest(), 0);
        x.hold(1, true);
        Check.gives(x, "a alone, c two", x.heaviest(), 2);
        x.hold(2, true);
        Check.gives(x, "a to the right", x.heaviest(), 0);
        x.hold(0, true);
        Check.gives(x, "e alone", x.heaviest(), 4);
        x.hold(4, true);
        Check.refuses(x, "none can", x.heaviest(), 6);
        VaneTown y = new VaneTown();
        Check.refuses(y, "none there", y.heaviest(), 6);
    }

    private static void farthest() {
        VaneTown x = Check.town("place p;place q;vane a teeth 8 at p;vane b teeth 8 at p points 6;vane c teeth 60 at q points 9;");
        Check.refuses(x, "calm", x.farthest(), 6);
        x.wind(0, 4, 1);
        Check.gives(x, "4 teeth", x.farthest(), 1);
        x.wind(0, 2, 1);
        Check.gives(x, "3 teeth", x.farthest(), 1);
        x.wind(0, 14, 1);
        Check.gives(x, "1 tooth each", x.farthest(), 0);
        x.wind(1, 15, 1);
        Check.gives(x, "13 teeth", x.farthest(), 2);
        x.hold(2, true);
        Check.gives(x, "held, too", x.farthest(), 2);
        VaneTown y = new VaneTown();
        Check.refuses(y, "none there", y.farthest(), 6);
    }

    private static void teeth() {
        VaneTown x = Check.town(FREE + "vane c teeth 9 at p;belt g of a c slack 2;");
        x.hold(2, true);
        x.wind(0, 8, 1);
        Check.gives(x, "in 1", x.teeth(1), 2);
        Check.gives(x, "in 3", x.teeth(3), 5);
        Check.gives(x, "in 400", x.teeth(400), 22);
        x.pass(2);
        Check.gives(x, "from now on", x.teeth(400), 18);
        Check.refuses(x, "teeth(0)", x.teeth(0), 1);
        Check.refuses(x, "teeth(401)", x.teeth(401), 1);
    }

    private static void bestWind() {
        VaneTown x = Check.town("place p;place q;vane a teeth 8 at p stiff 9 points 3;"
                + "vane b teeth 8 at q points 3;vane c teeth 8 at q points 1;");
        Check.gives(x, "two of them now", x.bestWind(9, 0), 5);
        Check.gives(x, "a too stiff, b and c anywhere: all at 3", x.bestWind(9, 400), 5);
        Check.gives(x, "all anywhere", x.bestWind(10, 400), 0);
        Check.gives(x, "all at 2 in one", x.bestWind(10, 1), 3);
        x.hold(0, true);
        x.hold(1, true);
        x.hold(2, true);
        x.turn(0, 1);
        Check.gives(x, "held", x.bestWind(99, 400), 5);
        Check.gives(x, "its wind stays", x.windAt(0, 1), 0);
        Check.refuses(x, "strong 0", x.bestWind(0, 1), 1);
        Check.refuses(x, "strong 100", x.bestWind(100, 1), 1);
        Check.refuses(x, "ahead -1", x.bestWind(1, -1), 1);
        Check.refuses(x, "ahead 401", x.bestWind(1, 401), 1);
        VaneTown y = new VaneTown();
        Check.gives(y, "none there", y.bestWind(1, 1), 0);
    }

    private static void mending() {
        VaneTown x = Check.town(PAIR + "vane c teeth 8 at p;belt g of a c;belt h of a b;gear i of a b slack 9;");
        x.lift(2, true);
        x.wind(0, 4, 9);
        x.wind(1, 12, 1);
        Check.refuses(x, "not yet", x.mending(0), 6);
        Check.refuses(x, "not yet", x.mending(1), 6);
        Check.gives(x, "b comes free", x.mending(2), 1);
        Check.gives(x, "b comes free", x.mending(400), 1);
        x.lift(2, false);
        x.lift(1, true);
        x.hold(1, true);
        Check.refuses(x, "no more than without", x.mending(400), 6);
        x = Check.town(PAIR + "vane c teeth 8 at q;belt g of a b;belt h of b c;");
        x.wind(0, 4, 99);
        x.wind(1, 12, 1);
        Check.gives(x, "two come free by the first, one by the second", x.mending(9), 0);
        x = Check.town(PAIR + "vane c teeth 8 at q;belt g of b c;belt h of a b;");
        x.wind(0, 4, 99);
        x.wind(1, 12, 1);
        Check.gives(x, "one comes free by the first, two by the second", x.mending(9), 1);
        x.hold(1, true);
        x.wind(0, 0, 99);
        Check.gives(x, "c alone", x.mending(9), 0);
        Check.refuses(x, "mending(-1)", x.mending(-1), 1);
        Check.refuses(x, "mending(401)", x.mending(401), 1);
    }

    private static void nothingIsChanged() {
        VaneTown x = Check.town(PAIR + "belt h of a b slack 1;");
        x.wind(0, 4, 9);
        x.wind(1, 12, 1);
        x.points(0, 9);
        x.rights(9);
        x.again(0);
        x.strikes(0, 9);
        x.bell(0, 9);
        x.wrong(0, 9);
        x.holding(0, 9);
        x.helpers(0);
        x.firstToTurn();
        x.heaviest();
        x.calmed();
        x.teeth(9);
        x.bestWind(9, 9);
        x.mending(9);
        x.leaving(9);
        x.knowing(9);
        Check.gives(x, "quarter", x.told(3), 0);
        Check.gives(x, "lifted", x.told(4), 0);
        Check.gives(x, "held", x.told(5), 0);
        Check.gives(x, "a", x.vane(0, 3), 0);
        Check.gives(x, "turned", x.vane(0, 4), 0);
        Check.gives(x, "play", x.shaft(0, 4), 0);
        Check.gives(x, "direction", x.windAt(0, 0), 4);
        Check.gives(x, "strong", x.windAt(1, 1), 1);
    }
}
