/** Promises 46 to 49: leaving winds, the clutch to lift so as to know, what was seen. */
public final class MayBeTest {
    private static final String PAIR = "place p;place q;vane a teeth 8 at p;vane b teeth 8 at q";

    public static void main(String[] args) {
        leaving();
        leavingByOthers();
        knowing();
        knowingOfSeveral();
        seenIsAsked();
        wholeAndBroken();
        seenOfNoVanes();
        Check.end("MayBeTest");
    }

    private static void leaving() {
        VaneTown x = Check.town("place p;vane a teeth 4 at p stiff 3;");
        Check.gives(x, "not strong enough", x.leaving(3), 65535);
        Check.gives(x, "where it is right", x.leaving(4), 1 + 2 + (1 << 14) + (1 << 15));
        x.wind(0, 8, 9);
        Check.gives(x, "the wind that blows is no matter", x.leaving(4), 1 + 2 + (1 << 14) + (1 << 15));
        Check.gives(x, "it stays", x.windAt(0, 0), 8);
        x.pass(1);
        Check.gives(x, "where it is right now", x.leaving(99), 4 + 8 + 16 + 32);
        x.hold(0, true);
        Check.gives(x, "held", x.leaving(99), 65535);
        Check.refuses(x, "leaving(0)", x.leaving(0), 1);
        Check.refuses(x, "leaving(100)", x.leaving(100), 1);
        Check.refuses(x, "leaving(-1)", x.leaving(-1), 1);
    }

    private static void leavingByOthers() {
        VaneTown x = Check.town(PAIR + " points 4;belt h of a b;");
        Check.gives(x, "each takes the other as much farther", x.leaving(50), 65535);
        x.lift(0, true);
        Check.gives(x, "not joined", x.leaving(50), 0);
        VaneTown y = new VaneTown();
        Check.gives(y, "none there", y.leaving(99), 65535);
    }

    private static void knowing() {
        VaneTown x = Check.town(PAIR + " points 4;belt h of a b;");
        Check.gives(x, "lifted, none would leave it", x.knowing(50), 0);
        Check.gives(x, "it is not lifted", x.told(4), 0);
        x.lift(0, true);
        Check.refuses(x, "lifted already", x.knowing(50), 6);
        x.lift(0, false);
        x.hold(0, true);
        x.hold(1, true);
        Check.refuses(x, "not fewer", x.knowing(50), 6);
        Check.refuses(x, "knowing(0)", x.knowing(0), 1);
        Check.refuses(x, "knowing(100)", x.knowing(100), 1);
        VaneTown y = new VaneTown();
        Check.refuses(y, "none there", y.knowing(1), 6);
    }

    private static void knowingOfSeveral() {
        String three = "place p;vane a teeth 8 at p;vane b teeth 8 at p points 4;vane c teeth 8 at p stiff 99;";
        VaneTown x = Check.town(three + "belt f of a c slack 9;belt g of b a;belt h of a b;");
        Check.refuses(x, "two alike: either leaves the other", x.knowing(9), 6);
        x.lift(2, true);
        Check.gives(x, "the one that is left", x.knowing(9), 1);
        x = Check.town(three + "belt f of b c;belt g of a c;");
        Check.gives(x, "each frees one: 2 winds leave it then: the first", x.knowing(9), 0);
        x = Check.town(three + "vane d teeth 4 at p stiff 99;belt f of d c;belt g of a c;belt h of b d;");
        Check.gives(x, "the first that frees one", x.knowing(9), 1);
    }

    private static void see(VaneTown x, int tray, int... teeth) {
        for (int i = 0; i < teeth.length; i++) {
            x.write(tray, i, teeth[i]);
        }
    }

    private static void seenIsAsked() {
        VaneTown x = Check.town(PAIR + " points 4;belt h of a b;");
        Check.refuses(x, "no tray", x.whole(-1, 1), 1);
        Check.refuses(x, "no tray", x.broken(4, 1), 1);
        Check.refuses(x, "no rows, ahead of missing", x.whole(0, 0), 1);
        Check.refuses(x, "16 rows, ahead of missing", x.broken(0, 16), 1);
        Check.refuses(x, "missing", x.whole(0, 15), 2);
        Check.refuses(x, "missing", x.broken(0, 15), 2);
        x.tray(0, 0, 3);
        see(x, 0, 8, 4, 0);
        Check.refuses(x, "too few, ahead of no tooth", x.whole(0, 2), 3);
        Check.refuses(x, "too few, ahead of no tooth", x.broken(0, 2), 3);
        Check.refuses(x, "no tooth", x.whole(0, 1), 5);
        Check.refuses(x, "no tooth", x.broken(0, 1), 5);
        see(x, 0, 0, -1);
        Check.refuses(x, "no tooth", x.whole(0, 1), 5);
        see(x, 0, 0, 4, 99);
        Check.gives(x, "what is behind is no matter", x.whole(0, 1), 1);
        x.tray(0, 3, 60);
        see(x, 0, 0, 4);
        x.write(0, 29, 8);
        Check.refuses(x, "in the last row", x.whole(0, 15), 5);
        Check.gives(x, "ahead of it", x.whole(0, 14), 0);
        x.write(0, 29, 1L << 40);
        Check.refuses(x, "far off", x.broken(0, 15), 5);
        x.write(0, 29, 4);
        for (int i = 0; i < 15; i++) {
            x.write(0, 2 * i, 0);
            x.write(0, 2 * i + 1, 4);
        }
        Check.gives(x, "15 rows of calm", x.whole(0, 15), 1);
        Check.gives(x, "any may be broken at calm", x.broken(0, 15), 1);
    }

    private static void wholeAndBroken() {
        VaneTown x = Check.town("place p;place q;vane a teeth 8 at p;vane b teeth 8 at q;vane c teeth 8 at q points 2;"
                + "belt g of a b;gear h of b c slack 1;belt i of a c;");
        x.lift(2, true);
        x.wind(0, 4, 9);
        x.tray(1, 2, 6);
        see(x, 1, 1, 1, 2, 2, 2, 1);
        Check.gives(x, "b at once, c by the second", x.whole(1, 2), 1);
        Check.gives(x, "none is broken", x.broken(1, 2), 0);
        Check.gives(x, "in the first row h may be", x.broken(1, 1), 2);
        see(x, 1, 1, 0, 2, 2, 0, 2);
        Check.gives(x, "b stands still", x.whole(1, 2), 0);
        Check.gives(x, "g", x.broken(1, 2), 1);
        see(x, 1, 1, 1, 2, 2, 2, 2);
        Check.gives(x, "c stands still", x.whole(1, 2), 0);
        Check.gives(x, "h", x.broken(1, 2), 2);
        see(x, 1, 1, 1, 1, 2, 2, 2);
        Check.gives(x, "no way", x.broken(1, 2), 0);
        see(x, 1, 0, 1, 2, 2, 2, 1);
        Check.gives(x, "a elsewhere in the first row", x.whole(1, 2), 0);
        see(x, 1, 1, 1, 2, 2, 2, 0);
        Check.gives(x, "c elsewhere in the last row", x.whole(1, 2), 0);
        Check.gives(x, "what is lifted stays", x.told(4), 4);
        Check.gives(x, "nothing was turned", x.vane(0, 3), 0);
    }

    private static void seenOfNoVanes() {
        VaneTown x = new VaneTown();
        x.tray(0, 0, 0);
        Check.gives(x, "no vanes", x.whole(0, 15), 1);
        Check.gives(x, "no shafts", x.broken(0, 15), 0);
    }
}
