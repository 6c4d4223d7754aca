/** Edges of promises 25 to 29 and 44: what is joined, by which ratio, what is locked, common, sway, parting. */
final class EdgesOfJoins extends Edges {
    private static final String FIVE = "place p;vane a teeth 8 at p;vane b teeth 12 at p;vane c teeth 6 at p;"
            + "vane d teeth 60 at p;vane e teeth 7 at p;";

    private EdgesOfJoins() {
    }

    static void all() {
        full();
        joined();
        ratio();
        ratioByTheFirstWay();
        locked();
        common();
        sway();
        parting();
    }

    /** Eight vanes in a row, each joined to the next. */
    private static VaneTown row(String end) {
        StringBuilder text = new StringBuilder("place p;");
        for (char v = 'a'; v <= 'h'; v++) {
            text.append("vane ").append(v).append(" teeth 9 at p;");
        }
        for (char v = 'a'; v < 'h'; v++) {
            text.append("gear g").append(v).append(" of ").append((char) (v + 1)).append(' ').append(v).append(" slack 9;");
        }
        return Check.town(text + end);
    }

    /** As many as there may be: va with each other, and the first three others twice. */
    private static void full() {
        edge(25, "that hang together with one by SHAFTS that are not LIFTED.");
        VaneTown x = Check.town(EdgesOfWhatIsTold.fullTown());
        for (int v = 0; v < 8; v++) {
            gives(x, "all eight of " + v, x.joined(v), 255);
            tells(x, "ratio(0, " + v + ")", x.ratio(0, v), v == 0 ? 1 : -1, 1);
            gives(x, "no SLACK", x.sway(v, 7), 0);
        }
        gives(x, "gears alike", x.locked(), 0);
        gives(x, "those that stand once", x.parting(), 8 + 16 + 32 + 64);
        for (int s = 0; s < 10; s++) {
            takes(x, "lift", x.lift(s, true));
        }
        for (int v = 0; v < 8; v++) {
            gives(x, "alone", x.joined(v), 1 << v);
        }
        gives(x, "none", x.parting(), 0);
        edge(25, "JOINED: the set of VANES");
        gives(x, "a lesser village", Check.village(x, "place p;vane a teeth 8 at p;vane b teeth 8 at p;"), 2);
        gives(x, "nothing of that ahead", x.joined(0), 1);
        refuses(x, "nothing of that ahead", x.sway(0, 1), 7);
        gives(x, "nothing of that ahead", x.parting(), 0);
        gives(x, "nothing of that ahead", x.locked(), 0);
    }

    private static void joined() {
        edge(25, "JOINED (1).");
        VaneTown x = Check.town(FIVE + "gear g of b a;belt h of c d;");
        bounds(x, "joined", n -> x.joined(n), 0, 4);
        VaneTown none = new VaneTown();
        refuses(none, "no vanes", none.joined(0), 1);
        edge(25, "JOINED: the set of VANES (1 for VANE 0, 2 for 1 ..) that hang together with one by SHAFTS that are not LIFTED.");
        int[] sets = {3, 3, 12, 12, 16};
        for (int v = 0; v < 5; v++) {
            gives(x, "joined(" + v + ")", x.joined(v), sets[v]);
        }
        takes(x, "lift", x.lift(0, true));
        gives(x, "alone", x.joined(0), 1);
        gives(x, "alone", x.joined(1), 2);
        takes(x, "lower", x.lift(0, false));
        gives(x, "again", x.joined(0), 3);
        VaneTown y = row("");
        for (int v = 0; v < 8; v++) {
            gives(y, "all eight of " + v, y.joined(v), 255);
        }
        takes(y, "lift in the middle", y.lift(3, true));
        gives(y, "one half", y.joined(0), 15);
        gives(y, "the other half", y.joined(7), 240);
    }

    private static void ratio() {
        edge(26, "The FRACTION is RATIO: below 0 if they turn contrary (1; 7: not JOINED).");
        VaneTown x = Check.town(FIVE + "gear g of b a;belt h of c b;gear i of c d;");
        bounds(x, "the first", n -> asNumber(x.ratio(n, n)), 0, 4);
        beyond(x, "the second", n -> asNumber(x.ratio(0, n)), 0, 4);
        refuses(x, "1 ahead of 7", x.ratio(4, 5), 1);
        refuses(x, "1 ahead of 7", x.ratio(-1, 4), 1);
        refuses(x, "not joined", x.ratio(0, 4), 7);
        refuses(x, "not joined", x.ratio(4, 0), 7);
        tells(x, "contrary", x.ratio(0, 1), -2, 3);
        tells(x, "contrary, by two", x.ratio(0, 2), -4, 3);
        tells(x, "twice contrary", x.ratio(0, 3), 2, 15);
        tells(x, "the same way round", x.ratio(1, 2), 2, 1);
        tells(x, "itself", x.ratio(4, 4), 1, 1);
        tells(x, "itself", x.ratio(0, 0), 1, 1);
        takes(x, "lift", x.lift(1, true));
        refuses(x, "lifted", x.ratio(0, 2), 7);
        tells(x, "the other part", x.ratio(2, 3), -1, 10);
    }

    private static void ratioByTheFirstWay() {
        edge(26, "RATIO of two VANES that are JOINED: how many turns, and which way round, the second makes while the first makes one to the right, "
                + "by the first way there is (fewest SHAFTS, of these by numbers: from the VANE found first, by the least SHAFT), SLACK not minded.");
        VaneTown x = Check.town(FIVE + "belt g of a c;belt h of c b;gear i of a b slack 9;belt j of a b;");
        tells(x, "fewest SHAFTS: by i, not by g and h", x.ratio(0, 1), -2, 3);
        takes(x, "lift", x.lift(2, true));
        tells(x, "the least that is left", x.ratio(0, 1), 2, 3);
        x = Check.town(FIVE + "gear g of a c;belt h of a b;belt i of b d;belt j of c d;");
        tells(x, "c is found first, d from there by j", x.ratio(0, 3), -2, 15);
        tells(x, "from d b is found first, a from there by h", x.ratio(3, 0), 15, 2);
        x = Check.town(FIVE + "belt g of a b;gear h of b d;belt i of b d;");
        tells(x, "by the least of two SHAFTS", x.ratio(0, 3), -2, 15);
        takes(x, "lift", x.lift(1, true));
        tells(x, "by the other", x.ratio(0, 3), 2, 15);
        VaneTown y = row("");
        tells(y, "by seven gears", y.ratio(0, 7), -1, 1);
        tells(y, "by six gears", y.ratio(0, 6), 1, 1);
        y = row("belt i of a h slack 9;");
        tells(y, "by one belt", y.ratio(0, 7), 1, 1);
    }

    private static void locked() {
        edge(27, "LOCKED: a set.");
        VaneTown none = new VaneTown();
        gives(none, "of no vanes", none.locked(), 0);
        edge(27, "LOCKED are all VANES JOINED with one that by two ways would have to turn both ways round (or itself).");
        VaneTown x = Check.town(FIVE + "gear g of a b;gear h of b c;gear i of c a;belt j of c d;");
        gives(x, "three gears in a ring, and d that hangs on it, not e", x.locked(), 15);
        takes(x, "lift", x.lift(3, true));
        gives(x, "the ring", x.locked(), 7);
        takes(x, "lift", x.lift(0, true));
        gives(x, "no ring", x.locked(), 0);
        x = Check.town(FIVE + "gear g of c b;gear h of a b;gear i of a c;");
        gives(x, "the first SHAFT closes it", x.locked(), 7);
        x = Check.town(FIVE + "gear g of d e;belt h of e d;gear i of a b;");
        gives(x, "not with the first VANE", x.locked(), 24);
        x = Check.town(FIVE + "gear g of a b;gear h of b c;gear i of c d;gear j of d a;");
        gives(x, "four gears in a ring turn", x.locked(), 0);
        x = Check.town(FIVE + "belt g of a b;belt h of b c;gear i of c a;");
        gives(x, "one gear in a ring", x.locked(), 7);
        x = Check.town(FIVE + "gear g of a b;gear h of a b;belt i of c d;belt j of d c;");
        gives(x, "two alike", x.locked(), 0);
        x = Check.town(FIVE + "gear g of a b;gear h of a b;belt i of c d;gear j of d c slack 9;");
        gives(x, "two unlike, SLACK or not", x.locked(), 12);
        x = Check.town(FIVE + "gear g of a b;belt h of b a;belt i of c d;gear j of d c;");
        gives(x, "two of them", x.locked(), 15);
    }

    private static void common() {
        edge(28, "COMMON of a set (1: the empty one, too).");
        VaneTown x = Check.town(FIVE);
        bounds(x, "set", n -> x.common(n), 1, 31);
        refuses(x, "the empty one", x.common(0), 1);
        edge(28, "a set with others.");
        refuses(x, "a VANE that is not there", x.common(32), 1);
        refuses(x, "one that is not there with one that is", x.common(33), 1);
        refuses(x, "far", x.common(1 << 30), 1);
        VaneTown none = new VaneTown();
        refuses(none, "of no vanes", none.common(1), 1);
        refuses(none, "of no vanes, the empty one", none.common(0), 1);
        edge(28, "COMMON of a set: the fewest teeth (turned by each) behind which all of it POINT as ahead.");
        gives(x, "one alone", x.common(1), 8);
        gives(x, "the last alone", x.common(16), 7);
        gives(x, "8, 12", x.common(3), 24);
        gives(x, "12, 6", x.common(6), 12);
        gives(x, "6, 60", x.common(12), 60);
        gives(x, "8, 12, 6, 60, 7", x.common(31), 840);
        StringBuilder text = new StringBuilder("place p;");
        int[] teeth = {59, 57, 55, 53, 52, 49, 47, 43};
        long product = 1;
        for (int i = 0; i < 8; i++) {
            text.append("vane v").append((char) ('a' + i)).append(" teeth ").append(teeth[i]).append(" at p;");
            product *= teeth[i];
        }
        VaneTown y = Check.town(text.toString());
        gives(y, "far above an int", y.common(255), product);
        bounds(y, "set of eight", n -> y.common(n), 1, 255);
    }

    private static void sway() {
        edge(29, "SWAY (1; 7: not JOINED).");
        VaneTown x = Check.town(FIVE + "gear g of a b slack 9;belt h of b c slack 2;gear i of c d slack 3;gear j of d a slack 3;");
        bounds(x, "the first", n -> x.sway(n, n), 0, 4);
        beyond(x, "the second", n -> x.sway(0, n), 0, 4);
        refuses(x, "1 ahead of 7", x.sway(4, 5), 1);
        refuses(x, "not joined", x.sway(4, 0), 7);
        refuses(x, "not joined", x.sway(0, 4), 7);
        edge(29, "SWAY of two VANES that are JOINED: the least SLACK together on a way.");
        gives(x, "three SHAFTS of 8 against one of 9", x.sway(0, 1), 8);
        gives(x, "the other way", x.sway(1, 0), 8);
        gives(x, "itself", x.sway(4, 4), 0);
        takes(x, "lift", x.lift(1, true));
        gives(x, "one of 9", x.sway(0, 1), 9);
        takes(x, "lift", x.lift(0, true));
        refuses(x, "lifted", x.sway(0, 1), 7);
        VaneTown y = row("");
        gives(y, "seven of 9", y.sway(0, 7), 63);
        gives(y, "the other way", y.sway(7, 0), 63);
        VaneTown z = Check.town(FIVE + "gear g of a b slack 4;belt h of b a slack 4;belt i of a b slack 0;");
        gives(z, "the least of three", z.sway(0, 1), 0);
    }

    private static void parting() {
        edge(44, "PARTING: a set.");
        VaneTown none = new VaneTown();
        gives(none, "of no SHAFTS", none.parting(), 0);
        edge(44, "PARTING: the set of SHAFTS, not LIFTED, each of which, LIFTED alone, would leave VANES not JOINED that are.");
        VaneTown x = row("");
        gives(x, "a row: each", x.parting(), 127);
        takes(x, "lift", x.lift(3, true));
        gives(x, "not the one that is lifted", x.parting(), 127 - 8);
        x = row("belt i of a g;");
        gives(x, "all but the last are in a ring", x.parting(), 64);
        takes(x, "lift", x.lift(7, true));
        gives(x, "the ring is open", x.parting(), 127);
        x = Check.town(FIVE + "gear g of a b;belt h of b a;gear i of c d;");
        gives(x, "one of two is not needed", x.parting(), 4);
        takes(x, "lift", x.lift(1, true));
        gives(x, "the one that is left is", x.parting(), 5);
    }
}
