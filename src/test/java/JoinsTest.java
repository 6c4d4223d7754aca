/** Promises 25 to 29 and 44: what is joined, by which ratio, what is locked, common, sway, parting. */
public final class JoinsTest {
    private static final String FIVE = "place p;vane a teeth 8 at p;vane b teeth 12 at p;vane c teeth 6 at p;"
            + "vane d teeth 60 at p;vane e teeth 7 at p;";

    public static void main(String[] args) {
        joined();
        ratios();
        ratioByTheFirstWay();
        locked();
        common();
        sway();
        parting();
        Check.end("JoinsTest");
    }

    private static void joined() {
        VaneTown x = Check.town(FIVE + "gear g of b a;belt h of c b;gear i of d e;");
        Check.gives(x, "joined(0)", x.joined(0), 7);
        Check.gives(x, "joined(1)", x.joined(1), 7);
        Check.gives(x, "joined(2)", x.joined(2), 7);
        Check.gives(x, "joined(3)", x.joined(3), 24);
        x.hold(1, true);
        Check.gives(x, "held is joined", x.joined(0), 7);
        x.lift(0, true);
        Check.gives(x, "alone", x.joined(0), 1);
        Check.gives(x, "the others", x.joined(2), 6);
        Check.refuses(x, "joined(-1)", x.joined(-1), 1);
        Check.refuses(x, "joined(5)", x.joined(5), 1);
    }

    private static void ratio(VaneTown x, int a, int b, long top, long bottom) {
        Check.takes(x, "ratio(" + a + ", " + b + ")", x.ratio(a, b));
        Check.due("top of ratio(" + a + ", " + b + ")", x.top(), top);
        Check.due("bottom of ratio(" + a + ", " + b + ")", x.bottom(), bottom);
    }

    private static void ratios() {
        VaneTown x = Check.town(FIVE + "gear g of b a;belt h of c b;gear i of c d;");
        ratio(x, 0, 1, -2, 3);
        ratio(x, 1, 0, -3, 2);
        ratio(x, 0, 2, -4, 3);
        ratio(x, 2, 1, 1, 2);
        ratio(x, 0, 3, 2, 15);
        ratio(x, 3, 2, -10, 1);
        ratio(x, 4, 4, 1, 1);
        Check.refuses(x, "not joined", x.ratio(0, 4), 7);
        Check.due("the fraction stays", x.top(), 1);
        Check.refuses(x, "ratio(-1, 0)", x.ratio(-1, 0), 1);
        Check.refuses(x, "ratio(0, 5)", x.ratio(0, 5), 1);
        x.lift(1, true);
        Check.refuses(x, "lifted", x.ratio(0, 2), 7);
    }

    private static void ratioByTheFirstWay() {
        VaneTown x = Check.town(FIVE + "gear g of a b;belt h of a b;gear i of a c;gear j of b d;belt k of c d;");
        ratio(x, 0, 1, -2, 3);
        ratio(x, 0, 3, 2, 15);
        x.lift(0, true);
        // b is now found first by h, then d by j from b: contrary once.
        ratio(x, 0, 1, 2, 3);
        ratio(x, 0, 3, -2, 15);
        ratio(x, 3, 0, -15, 2);
        x.lift(1, true);
        ratio(x, 0, 3, -2, 15);
        ratio(x, 0, 1, 2, 3);

        x = Check.town(FIVE + "belt g of a c;gear h of a b;gear i of b d;gear j of c d;");
        // c is found ahead of b, so that d is found by j: contrary.
        ratio(x, 0, 3, -2, 15);
        // From d: b by i, ahead of c by j; a by h from b: the same way round.
        ratio(x, 3, 0, 15, 2);
    }

    private static void locked() {
        VaneTown x = Check.town(FIVE + "gear g of a b;gear h of b c slack 9;gear i of c a;belt j of a d;");
        Check.gives(x, "a ring of three gears, and what hangs on it", x.locked(), 15);
        x.lift(3, true);
        Check.gives(x, "the ring", x.locked(), 7);
        x.lift(1, true);
        Check.gives(x, "no ring", x.locked(), 0);
        x = Check.town(FIVE + "gear g of a b;belt h of a b;gear i of c d;gear j of c d;belt k of d e;");
        Check.gives(x, "two shafts of two vanes", x.locked(), 3);
        x = Check.town(FIVE + "gear g of a b;gear h of b c;belt i of c a;");
        Check.gives(x, "two gears in a ring", x.locked(), 0);
        x = Check.town(FIVE + "gear g of c b;gear h of a b;gear i of a c;");
        Check.gives(x, "the ring is closed by the first", x.locked(), 7);
        Check.gives(x, "of nothing", new VaneTown().locked(), 0);
    }

    private static void common() {
        VaneTown x = Check.town(FIVE);
        Check.gives(x, "8", x.common(1), 8);
        Check.gives(x, "8, 12", x.common(3), 24);
        Check.gives(x, "12, 6", x.common(6), 12);
        Check.gives(x, "all", x.common(31), 840);
        Check.refuses(x, "the empty one", x.common(0), 1);
        Check.refuses(x, "with others", x.common(32), 1);
        Check.refuses(x, "with others", x.common(33), 1);
        Check.refuses(x, "below 0", x.common(-1), 1);
        Check.gives(x, "7", x.common(16), 7);
        Check.refuses(x, "least", x.common(Integer.MIN_VALUE), 1);
        StringBuilder text = new StringBuilder("place p;");
        int[] teeth = {59, 58, 57, 55, 53, 49, 47, 43};
        long product = 1;
        for (int i = 0; i < 8; i++) {
            text.append("vane v").append((char) ('a' + i)).append(" teeth ").append(teeth[i]).append(" at p;");
            product *= teeth[i];
        }
        x = Check.town(text.toString());
        Check.gives(x, "above an int", x.common(255), product);
        Check.refuses(x, "with a ninth", x.common(256), 1);
    }

    private static void sway() {
        VaneTown x = Check.town(FIVE + "gear g of a b slack 9;belt h of b c slack 2;gear i of c d slack 3;"
                + "gear j of d a slack 1;gear k of a b slack 7;");
        Check.gives(x, "by three shafts rather than one", x.sway(0, 1), 6);
        Check.gives(x, "the other way", x.sway(1, 0), 6);
        Check.gives(x, "one shaft", x.sway(1, 2), 2);
        Check.gives(x, "two shafts", x.sway(0, 2), 4);
        Check.gives(x, "itself", x.sway(4, 4), 0);
        x.lift(2, true);
        Check.gives(x, "the lesser of two", x.sway(0, 1), 7);
        x.lift(4, true);
        Check.gives(x, "what is left", x.sway(0, 1), 9);
        Check.refuses(x, "not joined", x.sway(0, 4), 7);
        Check.refuses(x, "sway(-1, 0)", x.sway(-1, 0), 1);
        Check.refuses(x, "sway(0, 5)", x.sway(0, 5), 1);
    }

    private static void parting() {
        VaneTown x = Check.town(FIVE + "gear g of a b;gear h of b c;gear i of c a;belt j of c d;gear k of d e;belt l of e d;");
        Check.gives(x, "the one between", x.parting(), 8);
        x.lift(0, true);
        Check.gives(x, "the ring is open", x.parting(), 2 + 4 + 8);
        x.lift(4, true);
        Check.gives(x, "one of two", x.parting(), 2 + 4 + 8 + 32);
        x.lift(3, true);
        Check.gives(x, "not those lifted", x.parting(), 2 + 4 + 32);
        x = Check.town(FIVE + "gear g of a b;gear h of c d;");
        Check.gives(x, "each", x.parting(), 3);
        Check.gives(x, "of nothing", new VaneTown().parting(), 0);
    }
}
