/** Edges of promises 1 to 8: a new object, STATUS, the FRACTION, TRAYS. */
final class EdgesOfTrays extends Edges {
    private static final int FAR = Integer.MAX_VALUE;
    private static final int LOW = Integer.MIN_VALUE;

    private EdgesOfTrays() {
    }

    static void all() {
        newObject();
        statusIsOfTheLatest();
        fractionIsOfTheLatest();
        trays();
        manyAndSorts();
        laidAgain();
        cutNumbers();
        written();
        readOnes();
        pouredAsTheyWere();
        pourAsksInOrder();
    }

    private static void newObject() {
        edge(1, "A VILLAGE of no PLACES, VANES; QUARTER 0, no ORDERS, MARKS; TRAYS are MISSING; an empty tape; "
                + "the FRACTION 0 by 1; STATUS 0.");
        VaneTown x = new VaneTown();
        due("status() first of all", x.status(), 0);
        due("top()", x.top(), 0);
        due("bottom()", x.bottom(), 1);
        for (int what = 0; what <= 5; what++) {
            gives(x, "told(" + what + ")", x.told(what), 0);
        }
        refuses(x, "windAt of no place", x.windAt(0, 0), 1);
        refuses(x, "vane of no vane", x.vane(0, 0), 1);
        refuses(x, "shaft of no shaft", x.shaft(0, 0), 1);
        refuses(x, "run without orders", x.run(0), 6);
        refuses(x, "back without marks", x.back(), 6);
        for (int tray = 0; tray <= 3; tray++) {
            refuses(x, "a missing tray", x.read(tray, 0), 2);
        }
        refuses(x, "village(1) of an empty tape", x.village(1), 1);
        gives(x, "village(0) of an empty tape", x.village(0), 0);
        due("the first feed", x.feed(0, 0, 0, 0, 0), 20);
        VaneTown y = new VaneTown();
        gives(y, "quarters go by without vanes", y.pass(99), 99);
        gives(y, "rights of none", y.rights(400), 0);
        gives(y, "parting of none", y.parting(), 0);
        gives(y, "orders of none", y.orders(0), 0);
    }

    private static void statusIsOfTheLatest() {
        edge(2, "STATUS of the latest call that has one.");
        VaneTown x = new VaneTown();
        refuses(x, "read", x.read(0, 0), 2);
        due("status() asked twice", x.status(), 2);
        refuses(x, "told(6)", x.told(6), 1);
        gives(x, "told(0)", x.told(0), 0);
        refuses(x, "back()", x.back(), 6);
        takes(x, "tray", x.tray(0, 0, 0));
        edge(2, "status(), top(), bottom(), feed(), fault() have none.");
        refuses(x, "read of a tray of none", x.read(0, 0), 3);
        x.top();
        x.bottom();
        x.fault(0);
        x.fault(LOW);
        x.fault(FAR);
        for (int i = 1; i <= 46; i++) {
            due("feed " + i, x.feed(0, 0, 0, 0, 0), i <= 45 ? 20 * i : NONE);
            due("status() behind feed " + i, x.status(), 3);
        }
    }

    private static void fractionIsOfTheLatest() {
        edge(3, "The top of the FRACTION told latest.");
        VaneTown x = Check.town("place p;vane a teeth 8 at p;vane b teeth 12 at p;vane c teeth 8 at p;gear g of a b;");
        tells(x, "ratio(0, 1)", x.ratio(0, 1), -2, 3);
        refuses(x, "ratio(0, 2)", x.ratio(0, 2), 7);
        due("top() stays", x.top(), -2);
        refuses(x, "ratio(0, 3)", x.ratio(0, 3), 1);
        due("top() stays", x.top(), -2);
        refuses(x, "odds without orders", x.odds(0, 0, 1), 6);
        due("top() stays", x.top(), -2);
        tells(x, "ratio(1, 0)", x.ratio(1, 0), -3, 2);
        edge(4, "Its bottom, above 0.");
        refuses(x, "ratio(2, 0)", x.ratio(2, 0), 7);
        due("bottom() stays", x.bottom(), 2);
        Check.ordersTaken(x, "hold a;gust 1;", 2);
        takes(x, "odds", x.odds(0, 0, 20));
        due("bottom() is above 0", x.bottom() > 0 ? 1 : 0, 1);
        edge(4, "FRACTIONS are told by top() and bottom() without a common divisor, the bottom above 0; 0 is 0 by 1.");
        tells(x, "8 by 8 teeth", x.ratio(2, 2), 1, 1);
        tells(x, "contrary: the sign is above", x.ratio(0, 1), -2, 3);
        Check.ordersTaken(x, "wind p 8 1;", 1);
        tells(x, "none of 20 seeds", x.odds(0, 0, 20), 0, 1);
        Check.ordersTaken(x, "stop;", 1);
        tells(x, "20 of 20 seeds", x.odds(0, 0, 20), 1, 1);
        VaneTown y = Check.town("place p;vane a teeth 60 at p;vane b teeth 4 at p;belt h of a b;");
        tells(y, "60 by 4", y.ratio(0, 1), 15, 1);
        tells(y, "4 by 60", y.ratio(1, 0), 1, 15);
    }

    private static void trays() {
        edge(5, "TRAYS 0 to 3");
        VaneTown x = new VaneTown();
        bounds(x, "tray", n -> asNumber(x.tray(n, 0, 1)), 0, 3);
        takes(x, "tray 1", x.tray(1, 0, 1));
        takes(x, "tray 2", x.tray(2, 0, 1));
        bounds(x, "write to a tray", n -> asNumber(x.write(n, 0, n)), 0, 3);
        bounds(x, "read of a tray", n -> x.read(n, 0), 0, 3);
        gives(x, "each has its own numbers", x.read(0, 0), 0);
        gives(x, "each has its own numbers", x.read(3, 0), 3);
        bounds(x, "pour from a tray", n -> asNumber(x.pour(n, 0, 1, 0, 1)), 0, 3);
        bounds(x, "pour to a tray", n -> asNumber(x.pour(1, 0, n, 0, 1)), 0, 3);
        bounds(x, "whole by a tray", n -> x.whole(n, 1), 0, 3);
        bounds(x, "broken by a tray", n -> x.broken(n, 1), 0, 3);
        edge(5, "are MISSING at first,");
        VaneTown y = new VaneTown();
        for (int tray = 0; tray <= 3; tray++) {
            refuses(y, "read", y.read(tray, 0), 2);
            refuses(y, "write", y.write(tray, 0, 0), 2);
            refuses(y, "pour", y.pour(tray, 0, tray, 0, 0), 2);
            refuses(y, "whole", y.whole(tray, 1), 2);
            refuses(y, "broken", y.broken(tray, 1), 2);
        }
        takes(y, "tray 2 alone", y.tray(2, 0, 0));
        refuses(y, "tray 1 is missing still", y.read(1, 0), 2);
        refuses(y, "tray 3 is missing still", y.read(3, 0), 2);
        refuses(y, "tray 2 has no place", y.read(2, 0), 3);
    }

    private static void manyAndSorts() {
        edge(5, "or rows of 0 to 60 numbers");
        VaneTown x = new VaneTown();
        bounds(x, "so many numbers", n -> asNumber(x.tray(0, 0, n)), 0, 60);
        for (int many = 0; many <= 60; many += 20) {
            takes(x, "tray of " + many, x.tray(1, 3, many));
            refuses(x, "behind the last of " + many, x.read(1, many), 3);
            if (many > 0) {
                gives(x, "the last of " + many, x.read(1, many - 1), 0);
            }
        }
        edge(5, "of 8 bits (sort 0), 16 (1), 32 (2) or 64 (3).");
        bounds(x, "sort", n -> asNumber(x.tray(2, n, 1)), 0, 3);
    }

    private static void laidAgain() {
        edge(5, "A TRAY is a row of so many 0s (1).");
        VaneTown x = new VaneTown();
        takes(x, "tray", x.tray(0, 3, 60));
        for (int i = 0; i < 60; i++) {
            takes(x, "write", x.write(0, i, -1 - i));
        }
        refuses(x, "a tray that can't be", x.tray(0, 4, 0), 1);
        refuses(x, "a tray that can't be", x.tray(0, 3, 61), 1);
        gives(x, "it stays as it was", x.read(0, 59), -60);
        takes(x, "shorter", x.tray(0, 2, 2));
        refuses(x, "its end", x.read(0, 2), 3);
        takes(x, "longer again", x.tray(0, 3, 60));
        for (int i = 0; i < 60; i++) {
            gives(x, "a 0", x.read(0, i), 0);
        }
    }

    private static void cutNumbers() {
        edge(6, "of 8 bits (sort 0), 16 (1), 32 (2) or 64 (3).");
        VaneTown x = new VaneTown();
        for (int sort = 0; sort <= 3; sort++) {
            long most = Long.MAX_VALUE >> 64 - (8 << sort);
            takes(x, "tray", x.tray(0, sort, 3));
            wraps(x, sort, most, most);
            wraps(x, sort, -most - 1, -most - 1);
            wraps(x, sort, most + 1, -most - 1);
            wraps(x, sort, -most - 2, most);
            wraps(x, sort, -1, -1);
            wraps(x, sort, 2 * most + 1, -1);
            wraps(x, sort, 2 * most + 2, 0);
            wraps(x, sort, Long.MAX_VALUE, sort == 3 ? Long.MAX_VALUE : -1);
            wraps(x, sort, Long.MIN_VALUE, sort == 3 ? Long.MIN_VALUE : 0);
        }
    }

    private static void wraps(VaneTown x, int sort, long v, long want) {
        takes(x, "write of " + v, x.write(0, 1, v));
        gives(x, v + " cut to sort " + sort, x.read(0, 1), want);
        gives(x, "the one ahead of it", x.read(0, 0), 0);
        gives(x, "the one behind it", x.read(0, 2), 0);
    }

    private static void written() {
        edge(6, "A number comes to a place of a TRAY, cut to its sort (1, 2, 3).");
        VaneTown x = new VaneTown();
        refuses(x, "no tray, ahead of all", x.write(-1, -1, 5), 1);
        refuses(x, "no tray", x.write(4, 0, 5), 1);
        refuses(x, "a missing one, ahead of the place", x.write(0, -1, 5), 2);
        takes(x, "tray", x.tray(0, 0, 3));
        int[] places = {-1, 3, 60, LOW, FAR};
        for (int place : places) {
            refuses(x, "place " + place, x.write(0, place, 5), 3);
        }
        for (int place = 0; place < 3; place++) {
            gives(x, "nothing was written", x.read(0, place), 0);
        }
        takes(x, "the first", x.write(0, 0, 300));
        takes(x, "the last", x.write(0, 2, -300));
        gives(x, "the first, cut", x.read(0, 0), 44);
        gives(x, "the last, cut", x.read(0, 2), -44);
        takes(x, "a tray of none", x.tray(1, 0, 0));
        refuses(x, "it has no place", x.write(1, 0, 5), 3);
    }

    private static void readOnes() {
        edge(7, "The number in a place of a TRAY; STATUS tells NONE from -1 (1, 2, 3).");
        VaneTown x = new VaneTown();
        refuses(x, "no tray, ahead of all", x.read(-1, -1), 1);
        refuses(x, "no tray", x.read(4, 0), 1);
        refuses(x, "a missing one, ahead of the place", x.read(3, -1), 2);
        takes(x, "tray", x.tray(3, 1, 2));
        takes(x, "-1", x.write(3, 1, -1));
        gives(x, "-1, a number", x.read(3, 1), -1);
        int[] places = {-1, 2, 60, LOW, FAR};
        for (int place : places) {
            refuses(x, "place " + place + ": -1, NONE", x.read(3, place), 3);
        }
        gives(x, "the first", x.read(3, 0), 0);
    }

    private static void fill(VaneTown x, int tray, int sort, int many, int from) {
        x.tray(tray, sort, many);
        for (int i = 0; i < many; i++) {
            x.write(tray, i, from + i);
        }
    }

    private static void holds(VaneTown x, String when, int tray, int... numbers) {
        for (int i = 0; i < numbers.length; i++) {
            gives(x, when + ", place " + i, x.read(tray, i), numbers[i]);
        }
        refuses(x, when + ", its end", x.read(tray, numbers.length), 3);
    }

    private static void pouredAsTheyWere() {
        edge(8, "So many numbers of a TRAY, from a place on, come to another one's (or its own) place on, as they were");
        VaneTown x = new VaneTown();
        fill(x, 0, 1, 4, 10);
        fill(x, 1, 1, 3, 20);
        takes(x, "to the last place", x.pour(0, 3, 1, 2, 1));
        holds(x, "to the last place", 1, 20, 21, 13);
        takes(x, "all", x.pour(1, 0, 0, 1, 3));
        holds(x, "all", 0, 10, 20, 21, 13);
        takes(x, "its own, on", x.pour(0, 0, 0, 1, 3));
        holds(x, "its own, on", 0, 10, 10, 20, 21);
        takes(x, "its own, back", x.pour(0, 1, 0, 0, 3));
        holds(x, "its own, back", 0, 10, 20, 21, 21);
        takes(x, "its own, where they are", x.pour(0, 0, 0, 0, 4));
        holds(x, "its own, where they are", 0, 10, 20, 21, 21);
        takes(x, "none", x.pour(0, 0, 1, 0, 0));
        holds(x, "none", 1, 20, 21, 13);
        fill(x, 2, 3, 60, 100);
        fill(x, 3, 3, 60, 200);
        takes(x, "60 of 60", x.pour(2, 0, 3, 0, 60));
        gives(x, "the last of 60", x.read(3, 59), 159);
    }

    private static void pourAsksInOrder() {
        edge(8, "(1: below 0, too; 2; 8; 3; asked in this order).");
        VaneTown x = new VaneTown();
        int[] below = {-1, LOW};
        for (int n : below) {
            refuses(x, "no such tray", x.pour(n, 0, 0, 0, 0), 1);
            refuses(x, "no such tray", x.pour(0, 0, n, 0, 0), 1);
            refuses(x, "place below 0, trays missing", x.pour(0, n, 1, 0, 0), 1);
            refuses(x, "the other place below 0", x.pour(0, 0, 1, n, 0), 1);
            refuses(x, "many below 0", x.pour(0, 0, 1, 0, n), 1);
        }
        takes(x, "tray", x.tray(0, 0, 2));
        refuses(x, "missing, too many", x.pour(0, 0, 1, 0, 9), 2);
        refuses(x, "missing, too many", x.pour(1, 0, 0, 0, 9), 2);
        for (int sort = 1; sort <= 3; sort++) {
            takes(x, "tray", x.tray(1, sort, 2));
            refuses(x, "unlike, too many", x.pour(0, 0, 1, 0, 9), 8);
            refuses(x, "unlike, below 0", x.pour(0, 0, 1, 0, -1), 1);
            refuses(x, "unlike", x.pour(1, 0, 0, 0, 1), 8);
            refuses(x, "unlike, though none are poured", x.pour(1, 0, 0, 0, 0), 8);
        }
        takes(x, "tray", x.tray(1, 0, 3));
        refuses(x, "one too many of the first", x.pour(0, 0, 1, 0, 3), 3);
        refuses(x, "one too many for the second", x.pour(1, 0, 0, 0, 3), 3);
        refuses(x, "one too far", x.pour(0, 1, 1, 0, 2), 3);
        refuses(x, "one too far", x.pour(1, 0, 0, 1, 2), 3);
        refuses(x, "far", x.pour(0, FAR, 1, 0, 1), 3);
        refuses(x, "far", x.pour(0, 0, 1, FAR, 1), 3);
        refuses(x, "many", x.pour(0, 0, 1, 0, FAR), 3);
        refuses(x, "far and many", x.pour(0, FAR, 1, FAR, FAR), 3);
        refuses(x, "its own, one too far", x.pour(1, 0, 1, 1, 3), 3);
    }
}
