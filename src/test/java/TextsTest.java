/** Promises 9 to 17: the tape, the VILLAGE and the ORDERS as texts, what they tell. */
public final class TextsTest {
    private static final String TWO = "place p;place q;vane a teeth 8 at p;vane b teeth 12 at q;gear g of a b;";
    private static final String LOOSE = "place p;vane a teeth 8 at p;vane b teeth 8 at p;gear g of a b slack 3;belt h of a b slack 5;";

    public static void main(String[] args) {
        tape();
        textsEndWhereTheyEnd();
        villageAsksForBytes();
        villageTaken();
        tokensNeedNoBlanks();
        villageFaultsOfTokens();
        villageFaultsOfNames();
        villageFaultsOfNumbers();
        villageFaultsOfMany();
        newVillageBeginsAnew();
        ordersTaken();
        ordersFaults();
        ordersDepthAndMany();
        faultTells();
        toldAndVaneAndShaft();
        wantsAndRight();
        Check.end("TextsTest");
    }

    private static void tape() {
        VaneTown x = new VaneTown();
        x.read(9, 9);
        for (int i = 1; i <= 45; i++) {
            Check.due("feed " + i, x.feed(0x20202020, 0x20202020, 0x0a0a0a0a, 0x20202020, 0x20202020), 20 * i);
        }
        Check.due("one feed too many", x.feed(0, 0, 0, 0, 0), -1);
        Check.due("status() is that ahead", x.status(), 1);
        Check.refuses(x, "more than the tape has", x.village(901), 1);
        Check.gives(x, "900 blanks", x.village(900), 0);
        Check.due("the tape is empty", x.feed(0, 0, 0, 0, 0), 20);
        Check.gives(x, "the first bytes alone", x.village(0), 0);
        Check.due("the tape is empty", x.feed(0, 0, 0, 0, 0), 20);
    }

    private static void textsEndWhereTheyEnd() {
        VaneTown x = new VaneTown();
        Check.feed(x, "place pqrs;");
        Check.refuses(x, "a word cut short", x.village(8), 9);
        Check.due("at its end", x.fault(1), 8);
        Check.feed(x, "place p;vane a teeth 89 at p;");
        Check.refuses(x, "a number cut short", x.village(22), 9);
        Check.due("the end, not 89", x.fault(0), 2);
        Check.due("at its end", x.fault(1), 22);
        Check.feed(x, "place pppppppp" + "p".repeat(886));
        Check.refuses(x, "900 bytes, a word at the end", x.village(900), 9);
        Check.due("a long word", x.fault(1), 6);
        Check.feed(x, "1".repeat(900));
        Check.refuses(x, "900 digits", x.village(900), 9);
        Check.due("no number", x.fault(0), 1);
        Check.feed(x, "place p;" + " ".repeat(884) + "place q;");
        Check.gives(x, "a semicolon at 899", x.village(900), 0);
        Check.gives(x, "two places", x.told(0), 2);
        for (int i = 0; i < 4; i++) {
            Check.gives(x, "again and again", Check.village(x, LOOSE), 2);
            Check.gives(x, "a place", x.told(0), 1);
            Check.gives(x, "two shafts", x.told(2), 2);
        }
    }

    private static void villageAsksForBytes() {
        VaneTown x = new VaneTown();
        Check.feed(x, TWO);
        Check.refuses(x, "village(-1)", x.village(-1), 1);
        Check.refuses(x, "more than the tape has", x.village(TWO.length() + 20), 1);
        Check.refuses(x, "orders(-1)", x.orders(-1), 1);
        Check.refuses(x, "more than the tape has", x.orders(TWO.length() + 20), 1);
        Check.due("no fault told by these", x.fault(0), -1);
        Check.gives(x, "the tape has stayed", x.village(TWO.length()), 2);
        Check.refuses(x, "the tape is empty then", x.village(1), 1);
        Check.due("fault(0) of the one taken", x.fault(0), 0);
    }

    private static void villageTaken() {
        VaneTown x = Check.town("place p; place longname\n;vane a teeth 4 at longname stiff 99 points 3;\n"
                + "vane b teeth 0060 at p points 59; vane c teeth 5 at p stiff 0;"
                + "gear g of a b slack 9; belt h of c a; gear i of b c slack 0; gear j of b a;");
        Check.gives(x, "places", x.told(0), 2);
        Check.gives(x, "vanes", x.told(1), 3);
        Check.gives(x, "shafts", x.told(2), 4);
        row(x, "vane a", new int[] {x.vane(0, 0), x.vane(0, 1), x.vane(0, 2), x.vane(0, 3)}, 4, 1, 99, 3);
        row(x, "vane b", new int[] {x.vane(1, 0), x.vane(1, 1), x.vane(1, 2), x.vane(1, 3)}, 60, 0, 0, 59);
        row(x, "vane c", new int[] {x.vane(2, 0), x.vane(2, 1), x.vane(2, 2), x.vane(2, 3)}, 5, 0, 0, 0);
        shaft(x, 0, 0, 1, 0, 9);
        shaft(x, 1, 2, 0, 1, 0);
        shaft(x, 2, 1, 2, 0, 0);
        shaft(x, 3, 1, 0, 0, 0);
    }

    private static void row(VaneTown x, String what, int[] got, int... want) {
        for (int i = 0; i < want.length; i++) {
            Check.due(what + ", " + i, got[i], want[i]);
        }
    }

    private static void shaft(VaneTown x, int shaft, int first, int second, int belt, int slack) {
        Check.gives(x, "first of shaft " + shaft, x.shaft(shaft, 0), first);
        Check.gives(x, "second of shaft " + shaft, x.shaft(shaft, 1), second);
        Check.gives(x, "belt, shaft " + shaft, x.shaft(shaft, 2), belt);
        Check.gives(x, "slack of shaft " + shaft, x.shaft(shaft, 3), slack);
        Check.gives(x, "play of shaft " + shaft, x.shaft(shaft, 4), 0);
    }

    private static void tokensNeedNoBlanks() {
        VaneTown x = Check.town("place p;vane a teeth8at p stiff3points2;vane b teeth8at p;gear g of a b slack4;");
        Check.gives(x, "stiff", x.vane(0, 2), 3);
        Check.gives(x, "points", x.vane(0, 3), 2);
        Check.gives(x, "slack", x.shaft(0, 3), 4);
    }

    private static void villageFaultsOfTokens() {
        Check.villageFault(".", 1, 0);
        Check.villageFault("place p;P", 1, 8);
        Check.villageFault("place p;\tplace q;", 1, 8);
        Check.villageFault("place " + (char) 233 + ";", 1, 6);
        Check.villageFault("place 12345", 1, 6);
        Check.villageFault("12345", 1, 0);
        Check.villageFault("place 1234", 2, 6);
        Check.villageFault(";", 2, 0);
        Check.villageFault("place", 2, 5);
        Check.villageFault("place  \n", 2, 8);
        Check.villageFault("place p q;.", 2, 8);
        Check.villageFault("places p;", 2, 0);
        Check.villageFault("place ;", 2, 6);
        Check.villageFault("place p;vane teeth 8 at p;", 2, 13);
        Check.villageFault(TWO + "belt of a b;", 2, TWO.length() + 5);
        Check.villageFault("wind p;", 2, 0);
        Check.villageFault("place p;vane a teeth 8 at p points 3 stiff 2;", 2, 37);
        Check.villageFault("place p;vane a teeth 8 at p stiff 2 stiff 2;", 2, 36);
        Check.villageFault("place p;vane a teeth;", 2, 20);
        Check.villageFault("place p;vane a teeth 8 at p stiff;", 2, 33);
        Check.villageFault("place p;vane a teeth 8 p;", 2, 23);
        Check.villageFault(TWO + "belt h of a b slack;", 2, TWO.length() + 19);
        Check.villageFault(TWO + "belt h a b;", 2, TWO.length() + 7);
        Check.villageFault(TWO + "belt h of a;", 2, TWO.length() + 11);
        Check.villageFault(TWO + "belt h of a b 3;", 2, TWO.length() + 14);
        Check.villageFault("place p=", 2, 7);
    }

    private static void villageFaultsOfNames() {
        String[] words = {"place", "vane", "teeth", "at", "stiff", "points", "gear", "belt", "of", "slack", "wind",
            "wait", "lift", "lower", "hold", "free", "turn", "gust", "when", "right", "loop", "end", "stop"};
        for (String word : words) {
            Check.villageFault("place " + word + ";", 2, 6);
        }
        VaneTown x = Check.town("place places;place ends;place abcdefgh;place north;");
        Check.gives(x, "names that are near to words", x.told(0), 4);
        Check.villageFault("place abcdefghi;", 2, 6);
        Check.villageFault("place p;place p;", 3, 14);
        Check.villageFault("place p;vane a teeth 8 at p;place a;", 3, 34);
        Check.villageFault("place p;vane a teeth 8 at p;vane a teeth 8 at p;", 3, 33);
        Check.villageFault(TWO + "gear g of a b;", 3, TWO.length() + 5);
        Check.villageFault(TWO + "vane g teeth 8 at p;", 3, TWO.length() + 5);
        Check.villageFault(TWO + "belt p of a b;", 3, TWO.length() + 5);
        Check.villageFault("place p;vane a teeth 8 at a;", 3, 26);
        Check.villageFault("vane a teeth 8 at p;place p;", 3, 18);
        Check.villageFault(TWO + "belt h of g a;", 3, TWO.length() + 10);
        Check.villageFault(TWO + "belt h of p a;", 3, TWO.length() + 10);
        Check.villageFault(TWO + "belt h of a h;", 3, TWO.length() + 12);
        Check.villageFault(TWO + "belt h of a a;", 5, TWO.length() + 12);
        Check.villageFault(TWO + "belt h of a abcdefghi;", 2, TWO.length() + 12);
        Check.villageFault(TWO + "belt h of a end;", 2, TWO.length() + 12);
    }

    private static void villageFaultsOfNumbers() {
        Check.villageFault("place p;vane a teeth 3 at p;", 4, 21);
        Check.villageFault("place p;vane a teeth 0 at p;", 4, 21);
        Check.villageFault("place p;vane a teeth 61 at p;", 4, 21);
        Check.villageFault("place p;vane a teeth 9999 at p;", 4, 21);
        Check.villageFault("place p;vane a teeth 00008 at p;", 1, 21);
        Check.villageFault("place p;vane a teeth 8 at p stiff 100;", 4, 34);
        Check.villageFault("place p;vane a teeth 8 at p points 8;", 4, 35);
        Check.villageFault(TWO + "belt h of a b slack 10;", 4, TWO.length() + 20);
    }

    private static void villageFaultsOfMany() {
        StringBuilder text = new StringBuilder("place p;place q;place r;place s;");
        Check.villageFault(text + "place p;", 6, 32);
        Check.villageFault(text + "place", 6, 32);
        for (int i = 0; i < 8; i++) {
            text.append("vane ").append((char) ('a' + i)).append(" teeth 9 at p;");
        }
        Check.villageFault(text + "vane p", 6, text.length());
        for (int i = 0; i < 10; i++) {
            text.append(i % 2 == 0 ? "gear g" : "belt g").append((char) ('a' + i)).append(" of a b;");
        }
        VaneTown x = Check.town(text.toString());
        Check.gives(x, "places", x.told(0), 4);
        Check.gives(x, "vanes", x.told(1), 8);
        Check.gives(x, "shafts", x.told(2), 10);
        Check.villageFault(text + "gear ga", 6, text.length());
        Check.villageFault(text + "belt", 6, text.length());
    }

    private static void newVillageBeginsAnew() {
        VaneTown x = Check.town(TWO);
        x.wind(0, 5, 9);
        x.wind(1, 5, 9);
        Check.ordersTaken(x, "stop;", 1);
        x.pass(3);
        x.turn(1, 3);
        x.lift(0, true);
        x.hold(1, true);
        Check.refuses(x, "a fault", Check.village(x, "place"), 9);
        Check.gives(x, "the old one stays", x.told(1), 2);
        Check.gives(x, "its quarter stays", x.told(3), 3);
        Check.gives(x, "its winds stay", x.windAt(1, 1), 9);
        Check.gives(x, "its orders stay", x.run(0), 1);
        Check.gives(x, "taken again", Check.village(x, TWO), 2);
        for (int what = 3; what <= 5; what++) {
            Check.gives(x, "quarter, lifted, held", x.told(what), 0);
        }
        for (int v = 0; v < 2; v++) {
            for (int what = 3; what <= 5; what++) {
                Check.gives(x, "vane " + v + ", " + what, x.vane(v, what), 0);
            }
            Check.gives(x, "direction", x.windAt(v, 0), 0);
            Check.gives(x, "calm", x.windAt(v, 1), 0);
        }
        Check.refuses(x, "no orders", x.run(0), 6);
        x = Check.town(LOOSE);
        x.turn(0, 2);
        x.turn(0, -2);
        Check.gives(x, "struck", x.vane(0, 5), 1);
        x.turn(0, 2);
        Check.gives(x, "play", x.shaft(0, 4), 2);
        Check.gives(x, "play", x.shaft(1, 4), 2);
        Check.gives(x, "taken again", Check.village(x, LOOSE), 2);
        Check.gives(x, "not struck", x.vane(0, 5), 0);
        Check.gives(x, "no play", x.shaft(0, 4), 0);
        Check.gives(x, "no play", x.shaft(1, 4), 0);
    }

    private static void ordersTaken() {
        VaneTown x = Check.town(TWO);
        Check.ordersTaken(x, "wind p 15 99; wind q 0 0;\ngust 99; gust 0; wait 1; wait 99; lift g; lower g;", 8);
        Check.ordersTaken(x, "hold a; free b; turn a 1; turn b 99; stop;", 5);
        Check.ordersTaken(x, "when points a<0;end;when points b>60;end;when points a=7;stop;end;when right b;end;", 5);
        Check.ordersTaken(x, "loop 1;when right a;loop 99;stop;end;end;end;", 4);
        Check.ordersTaken(x, "", 0);
        Check.ordersTaken(x, "loop1;end;".repeat(30), 30);
        Check.feed(x, " ".repeat(301));
        Check.refuses(x, "orders(301)", x.orders(301), 1);
        Check.gives(x, "orders(300)", x.orders(300), 0);
    }

    private static void ordersFaults() {
        VaneTown x = Check.town(TWO);
        Check.ordersTaken(x, "stop;stop;", 2);
        Check.ordersFault(x, "stop.", 1, 4);
        Check.ordersFault(x, "wait 12345;", 1, 5);
        Check.ordersFault(x, "wait 1", 2, 6);
        Check.ordersFault(x, "wait;", 2, 4);
        Check.ordersFault(x, "end;", 2, 0);
        Check.ordersFault(x, "loop 1;end;end;", 2, 11);
        Check.ordersFault(x, "loop 1;stop; ", 2, 13);
        Check.ordersFault(x, "when right a;end", 2, 16);
        Check.ordersFault(x, "loop 1;end stop;", 2, 11);
        Check.ordersFault(x, "loop 1 stop;end;", 2, 7);
        Check.ordersFault(x, "place r;", 2, 0);
        Check.ordersFault(x, "points a;", 2, 0);
        Check.ordersFault(x, "when points a;", 2, 13);
        Check.ordersFault(x, "when points a 3;", 2, 14);
        Check.ordersFault(x, "when points a==3;", 2, 14);
        Check.ordersFault(x, "when right a=3;", 2, 12);
        Check.ordersFault(x, "when hold a;", 2, 5);
        Check.ordersFault(x, "when;", 2, 4);
        Check.ordersFault(x, "hold 3;", 2, 5);
        Check.ordersFault(x, "hold hold;", 2, 5);
        Check.ordersFault(x, "hold abcdefghi;", 2, 5);
        Check.ordersFault(x, "wind a 0 0;", 3, 5);
        Check.ordersFault(x, "lift a;", 3, 5);
        Check.ordersFault(x, "lower p;", 3, 6);
        Check.ordersFault(x, "hold g;", 3, 5);
        Check.ordersFault(x, "free z;", 3, 5);
        Check.ordersFault(x, "turn p 1;", 3, 5);
        Check.ordersFault(x, "when points q<3;", 3, 12);
        Check.ordersFault(x, "when right g;", 3, 11);
        Check.ordersFault(x, "wind p 16 0;", 4, 7);
        Check.ordersFault(x, "wind p 0 100;", 4, 9);
        Check.ordersFault(x, "gust 100;", 4, 5);
        Check.ordersFault(x, "wait 0;", 4, 5);
        Check.ordersFault(x, "wait 100;", 4, 5);
        Check.ordersFault(x, "turn a 0;", 4, 7);
        Check.ordersFault(x, "turn a 100;", 4, 7);
        Check.ordersFault(x, "when points a<61;", 4, 14);
        Check.ordersFault(x, "loop 0;", 4, 5);
        Check.ordersFault(x, "loop 100;", 4, 5);
        Check.gives(x, "the old ones stay", x.run(0), 1);
    }

    private static void ordersDepthAndMany() {
        VaneTown x = Check.town(TWO);
        String three = "loop 2;when right a;loop 2;";
        Check.ordersFault(x, three + "loop 0;", 7, three.length());
        Check.ordersFault(x, three + "when", 7, three.length());
        Check.ordersFault(x, three + "end;loop 2;when right a;", 7, three.length() + 11);
        Check.ordersTaken(x, three + "stop;end;loop 2;end;end;end;", 5);
        String thirty = "stop;".repeat(30);
        Check.ordersTaken(x, thirty, 30);
        Check.ordersFault(x, thirty + "wait 0;", 6, 150);
        Check.ordersFault(x, thirty + "end;", 2, 150);
        String deep = "stop;".repeat(27) + three;
        Check.ordersTaken(x, deep + "end;end;end;", 30);
        Check.ordersFault(x, deep + "loop 2;", 6, deep.length());
        Check.ordersFault(x, deep + "end;end;end;stop", 6, deep.length() + 12);
    }

    private static void faultTells() {
        VaneTown x = new VaneTown();
        Check.due("fault(0) ahead of any", x.fault(0), -1);
        Check.village(x, "place p");
        Check.due("fault(0)", x.fault(0), 2);
        Check.due("fault(1)", x.fault(1), 7);
        Check.due("fault(2)", x.fault(2), -1);
        Check.due("fault(-1)", x.fault(-1), -1);
        x.village(99);
        Check.due("status 1 tells none", x.fault(0), 2);
        Check.orders(x, "stop;");
        Check.due("fault(0) of orders", x.fault(0), 0);
        Check.due("fault(1) of orders", x.fault(1), -1);
    }

    private static void toldAndVaneAndShaft() {
        VaneTown x = Check.town(TWO);
        x.lift(0, true);
        x.hold(1, true);
        Check.gives(x, "lifted", x.told(4), 1);
        Check.gives(x, "held", x.told(5), 2);
        Check.refuses(x, "told(-1)", x.told(-1), 1);
        Check.refuses(x, "told(6)", x.told(6), 1);
        Check.refuses(x, "vane(-1)", x.vane(-1, 0), 1);
        Check.refuses(x, "vane(2)", x.vane(2, 0), 1);
        Check.refuses(x, "vane what -1", x.vane(0, -1), 1);
        Check.refuses(x, "vane what 6", x.vane(0, 6), 1);
        Check.refuses(x, "shaft(-1)", x.shaft(-1, 0), 1);
        Check.refuses(x, "shaft(1)", x.shaft(1, 0), 1);
        Check.refuses(x, "shaft what -1", x.shaft(0, -1), 1);
        Check.refuses(x, "shaft what 5", x.shaft(0, 5), 1);
        Check.refuses(x, "wants(2)", x.wants(2), 1);
        Check.refuses(x, "wants(-1)", x.wants(-1), 1);
        Check.refuses(x, "right(2)", x.right(2), 1);
        Check.refuses(x, "right(-1)", x.right(-1), 1);
    }

    private static void wantsAndRight() {
        VaneTown x = Check.town("place p;place q;vane a teeth 4 at p;vane b teeth 60 at p points 56;"
                + "vane c teeth 7 at q points 3;");
        Check.refuses(x, "calm", x.wants(0), 6);
        Check.gives(x, "right at calm", x.right(1), 1);
        int[] ofFour = {0, 0, 1, 1, 1, 1, 2, 2, 2, 2, 3, 3, 3, 3, 0, 0};
        int[] ofSixty = {0, 4, 8, 11, 15, 19, 23, 26, 30, 34, 38, 41, 45, 49, 53, 56};
        int[] ofSeven = {0, 0, 1, 1, 2, 2, 3, 3, 4, 4, 4, 5, 5, 6, 6, 0};
        for (int d = 0; d < 16; d++) {
            x.wind(0, d, 1);
            x.wind(1, d, 99);
            Check.gives(x, "4 teeth, " + d, x.wants(0), ofFour[d]);
            Check.gives(x, "60 teeth, " + d, x.wants(1), ofSixty[d]);
            Check.gives(x, "7 teeth, " + d, x.wants(2), ofSeven[d]);
            Check.gives(x, "4 teeth right, " + d, x.right(0), ofFour[d] == 0 ? 1 : 0);
            Check.gives(x, "60 teeth right, " + d, x.right(1), d == 15 ? 1 : 0);
            Check.gives(x, "7 teeth right, " + d, x.right(2), d == 6 || d == 7 ? 1 : 0);
        }
        x.wind(1, 6, 9);
        Check.gives(x, "right at once", x.right(2), 1);
        x.wind(1, 9, 9);
        Check.gives(x, "wrong at once", x.right(2), 0);
        x.wind(1, 3, 0);
        Check.refuses(x, "calm again", x.wants(2), 6);
        Check.gives(x, "its direction is kept", x.windAt(1, 0), 3);
    }
}
