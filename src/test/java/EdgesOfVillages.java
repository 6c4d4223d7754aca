/** Edges of promises 9, 10 and 12: the tape, the VILLAGE's text, its FAULTS. */
final class EdgesOfVillages extends Edges {
    private static final String TWO = "place p;vane a teeth 8 at p;vane b teeth 9 at p;";
    private static final String[] KEYWORDS = {"place", "vane", "teeth", "at", "stiff", "points", "gear", "belt", "of",
        "slack", "wind", "wait", "lift", "lower", "hold", "free", "turn", "gust", "when", "right", "loop", "end", "stop"};
    /** All that a PART may have, a TOKEN each. */
    private static final String[] TOKENS = ("place p ; vane a teeth 8 at p stiff 3 points 2 ; vane b teeth 9 at p ; "
            + "vane c teeth 7 at p stiff 1 ; vane d teeth 6 at p points 1 ; gear g of a b slack 4 ; belt h of b c ; "
            + "belt i of c d slack 9 ; gear j of d a ;").split(" ");

    private EdgesOfVillages() {
    }

    static void all() {
        tape();
        bytesOfTheTape();
        villageIsAsked();
        mostBytes();
        bytesThatBeginTokens();
        tokensAsLongAsTheyGo();
        parts();
        names();
        oneNameOfOneThing();
        placesAndVanes();
        shafts();
        numbersOfThings();
        faultsOfTokens();
        faultsByThePlaceOfTheToken();
        faultsOfNames();
        faultsOfNumbersAndSelves();
        faultsOfOneMore();
        takenAnew();
        faultIsTold();
    }

    private static void tape() {
        edge(9, "Twenty bytes come behind those on the tape, the highest of each int first: how many it has;");
        VaneTown x = new VaneTown();
        // "place p;vane a teeth" and " 8 at p;" with four bytes for each int, the highest first.
        due("the first twenty", x.feed(0x706c6163, 0x6520703b, 0x76616e65, 0x20612074, 0x65657468), 20);
        due("twenty behind them", x.feed(0x20382061, 0x7420703b, 0x3b3b3b3b, 0x3b3b3b3b, 0x3b3b3b3b), 40);
        gives(x, "the first 28 of them", x.village(28), 1);
        gives(x, "8 teeth", x.vane(0, 0), 8);
        due("an empty tape again", x.feed(-1, -1, -1, -1, -1), 20);
        refuses(x, "a byte 255 begins no TOKEN", x.village(1), 9);
        due("fault(0)", x.fault(0), 1);
        edge(9, "NONE if there would be more than 900.");
        for (int i = 1; i <= 45; i++) {
            due("feed " + i, x.feed(0x20202020, 0x20202020, 0x20202020, 0x20202020, 0x20202020), 20 * i);
        }
        due("feed 46", x.feed(-1, -1, -1, -1, -1), NONE);
        due("feed 47", x.feed(-1, -1, -1, -1, -1), NONE);
        refuses(x, "901 bytes are not there", x.village(901), 1);
        gives(x, "900 blanks, nothing of those that were refused", x.village(900), 0);
        due("room again", x.feed(0, 0, 0, 0, 0), 20);
    }

    private static void bytesOfTheTape() {
        edge(9, "the highest of each int first");
        for (int i = 0; i < 20; i++) {
            StringBuilder text = new StringBuilder("                    ");
            text.setCharAt(i, (char) 200);
            VaneTown x = new VaneTown();
            refuses(x, "a byte 200 at " + i, Check.village(x, text.toString()), 9);
            due("fault(1)", x.fault(1), i);
        }
    }

    private static void villageIsAsked() {
        edge(10, "The first n bytes of the tape (which is empty then) are the VILLAGE: how many VANES");
        VaneTown x = new VaneTown();
        Check.feed(x, TWO + "vane c");
        gives(x, "the first of them alone", x.village(TWO.length()), 2);
        refuses(x, "the tape is empty", x.village(1), 1);
        Check.feed(x, TWO);
        gives(x, "village(0): nothing of what is fed", x.village(0), 0);
        gives(x, "no vanes, no places", x.told(0), 0);
        refuses(x, "the tape is empty", x.village(1), 1);
        edge(10, "(1: n below 0, or more than the tape has, too; 9: the old one stays).");
        due("feed", x.feed(0x20202020, 0x20202020, 0x20202020, 0x20202020, 0x20202020), 20);
        refuses(x, "21 of 20", x.village(21), 1);
        refuses(x, "below 0", x.village(-1), 1);
        refuses(x, "least", x.village(Integer.MIN_VALUE), 1);
        refuses(x, "most", x.village(Integer.MAX_VALUE), 1);
        due("the tape is as it was", x.feed(0x20202020, 0x20202020, 0x20202020, 0x20202020, 0x20202020), 40);
        gives(x, "40 of 40", x.village(40), 0);
        gives(x, "a village", Check.village(x, TWO), 2);
        takes(x, "wind", x.wind(0, 3, 4));
        refuses(x, "one with a FAULT at its end", Check.village(x, "place q;place r;vane z teeth 60 at q"), 9);
        due("the tape is empty", x.feed(0, 0, 0, 0, 0), 20);
        gives(x, "the old places", x.told(0), 1);
        gives(x, "the old vanes", x.told(1), 2);
        gives(x, "the old teeth", x.vane(0, 0), 8);
        gives(x, "the old wind", x.windAt(0, 1), 4);
    }

    private static void mostBytes() {
        edge(10, "A VILLAGE is a TEXT of at most 900 bytes.");
        VaneTown x = new VaneTown();
        gives(x, "900 bytes", Check.village(x, TWO + " ".repeat(892 - TWO.length()) + "place q;"), 2);
        gives(x, "two places", x.told(0), 2);
        Check.feed(x, " ".repeat(920));
        refuses(x, "901 bytes", x.village(901), 1);
        refuses(x, "920 bytes", x.village(920), 1);
        Check.villageFault("place p;" + "a".repeat(892), 2, 8);
        Check.villageFault("place p;" + "7".repeat(892), 1, 8);
        Check.villageFault(" ".repeat(899) + ".", 1, 899);
        Check.villageFault(" ".repeat(899) + ";", 2, 899);
        Check.villageFault(" ".repeat(895) + "place", 2, 900);
    }

    private static void bytesThatBeginTokens() {
        edge(10, "between them blanks (10, 32): WORDS (small letters), NUMBERS (1 to 4 digits), SIGNS ; &lt; &gt; =");
        for (int b = 0; b < 256; b++) {
            String text = "place p;" + (char) b;
            if (b == 10 || b == 32) {
                VaneTown x = Check.town(text);
                gives(x, "a blank, " + b, x.told(0), 1);
            } else {
                boolean isToken = b >= 'a' && b <= 'z' || b >= '0' && b <= '9' || ";<>=".indexOf(b) >= 0;
                Check.villageFault(text, isToken ? 2 : 1, 8);
            }
        }
    }

    private static void tokensAsLongAsTheyGo() {
        edge(10, "TOKENS, as long as they go,");
        VaneTown x = Check.town("place\np;vane a teeth8at p stiff0099points0007;");
        gives(x, "a NUMBER of 4 digits", x.vane(0, 2), 99);
        gives(x, "a NUMBER of 4 digits", x.vane(0, 3), 7);
        gives(x, "a NUMBER of 1 digit", x.vane(0, 0), 8);
        Check.villageFault("placep;", 2, 0);
        Check.villageFault("place p;vane a teeth 0 8 at p;", 4, 21);
        Check.villageFault("place p;vane a teeth 8 8 at p;", 2, 23);
        Check.villageFault("place p;vane a teeth 60000 at p;", 1, 21);
        Check.villageFault("place p q;", 2, 8);
        x = Check.town("\n \n place \n\n p\n;\n ");
        gives(x, "blanks at both ends", x.told(0), 1);
    }

    private static String tokens(int many) {
        StringBuilder text = new StringBuilder();
        for (int i = 0; i < many; i++) {
            text.append(TOKENS[i]).append(' ');
        }
        return text.toString();
    }

    private static void parts() {
        edge(10, "VILLAGE: {PART}.");
        VaneTown x = Check.town("");
        gives(x, "no PART: no places", x.told(0), 0);
        edge(10, "PART: place NAME ; or vane NAME teeth NUMBER at NAME [stiff NUMBER] [points NUMBER] ; "
                + "or gear NAME of NAME NAME [slack NUMBER] ; or belt NAME of NAME NAME [slack NUMBER] ;");
        for (int many = 0; many <= TOKENS.length; many++) {
            String text = tokens(many);
            if (many == 0 || TOKENS[many - 1].equals(";")) {
                x = Check.town(text);
            } else {
                Check.villageFault(text, 2, text.length());
            }
        }
        gives(x, "all vanes", x.told(1), 4);
        gives(x, "all shafts", x.told(2), 4);
        edge(10, "({ } any number of times, [ ] perhaps.)");
        int[] stiff = {3, 0, 1, 0};
        int[] points = {2, 0, 0, 1};
        int[] slack = {4, 0, 9, 0};
        for (int i = 0; i < 4; i++) {
            gives(x, "stiff, perhaps", x.vane(i, 2), stiff[i]);
            gives(x, "points, perhaps", x.vane(i, 3), points[i]);
            gives(x, "slack, perhaps", x.shaft(i, 3), slack[i]);
        }
        Check.villageFault("place p;vane a teeth 8 at p points 2 stiff 3;", 2, 37);
        Check.villageFault("place p;vane a teeth 8 at p stiff 2 stiff 3;", 2, 36);
        Check.villageFault("place p;vane a teeth 8 at p points 2 points 3;", 2, 37);
        Check.villageFault(TWO + "gear g of a b slack 1 slack 1;", 2, TWO.length() + 22);
        Check.villageFault(TWO + "gear g of a b stiff 1;", 2, TWO.length() + 14);
    }

    private static void names() {
        edge(10, "NAME: a WORD of 1 to 8 letters");
        VaneTown x = Check.town("place z;place abcdefgh;vane y teeth 4 at abcdefgh;vane hgfedcba teeth 4 at z;"
                + "gear x of y hgfedcba;belt abcdefgi of hgfedcba y;");
        gives(x, "at the second place", x.vane(0, 1), 1);
        gives(x, "at the first place", x.vane(1, 1), 0);
        Check.villageFault("place abcdefghi;", 2, 6);
        Check.villageFault("place p;vane abcdefghi teeth 4 at p;", 2, 13);
        Check.villageFault("place p;vane a teeth 4 at abcdefghi;", 2, 26);
        Check.villageFault(TWO + "gear abcdefghi of a b;", 2, TWO.length() + 5);
        Check.villageFault(TWO + "gear g of abcdefghi b;", 2, TWO.length() + 10);
        Check.villageFault(TWO + "gear g of a abcdefghi;", 2, TWO.length() + 12);
        edge(10, "that is none of place, vane, teeth, at, stiff, points, gear, belt, of, slack, wind, wait, lift, lower, "
                + "hold, free, turn, gust, when, right, loop, end, stop.");
        for (String word : KEYWORDS) {
            Check.villageFault("place " + word + ";", 2, 6);
            Check.villageFault("place p;vane " + word + " teeth 4 at p;", 2, 13);
            Check.villageFault(TWO + "belt " + word + " of a b;", 2, TWO.length() + 5);
            Check.villageFault("place p;vane a teeth 4 at " + word + ";", 2, 26);
            x = Check.town("place " + word + "s;place x" + word + ";");
            gives(x, "names that are near to " + word, x.told(0), 2);
            if (word.length() > 2) {
                x = Check.town("place " + word.substring(1) + ";");
                gives(x, word + " without its first letter", x.told(0), 1);
            }
        }
    }

    private static void oneNameOfOneThing() {
        edge(10, "One NAME is of one thing alone.");
        String text = TWO + "gear g of a b;";
        String[] taken = {"p", "a", "b", "g"};
        for (String name : taken) {
            Check.villageFault(text + "place " + name + ";", 3, text.length() + 6);
            Check.villageFault(text + "vane " + name + " teeth 4 at p;", 3, text.length() + 5);
            Check.villageFault(text + "gear " + name + " of a b;", 3, text.length() + 5);
            Check.villageFault(text + "belt " + name + " of a b;", 3, text.length() + 5);
        }
        VaneTown x = Check.town(text + "place ga;");
        gives(x, "a longer one is another", x.told(0), 2);
    }

    private static void number(String ahead, String behind, int least, int most, int what) {
        for (int n = least; n <= most; n += most - least) {
            VaneTown x = Check.town(ahead + n + behind);
            int got = what == 9 ? x.shaft(0, 3) : x.vane(0, what);
            gives(x, ahead + n, got, n);
        }
        if (least > 0) {
            Check.villageFault(ahead + (least - 1) + behind, 4, ahead.length());
            Check.villageFault(ahead + 0 + behind, 4, ahead.length());
        }
        Check.villageFault(ahead + (most + 1) + behind, 4, ahead.length());
        Check.villageFault(ahead + 9999 + behind, 4, ahead.length());
        Check.villageFault(ahead + 10000 + behind, 1, ahead.length());
    }

    private static String many(int places, int vanes, int shafts) {
        StringBuilder text = new StringBuilder();
        for (int i = 0; i < places; i++) {
            text.append("place p").append((char) ('a' + i)).append(';');
        }
        for (int i = 0; i < vanes; i++) {
            text.append("vane v").append((char) ('a' + i)).append(" teeth ").append(10 + i).append(" at pa;");
        }
        for (int i = 0; i < shafts; i++) {
            text.append(i % 2 == 0 ? "gear s" : "belt s").append((char) ('a' + i)).append(" of va vb slack ").append(i % 10).append(';');
        }
        return text.toString();
    }

    private static void placesAndVanes() {
        edge(10, "PLACES, at most 4.");
        VaneTown x = Check.town(many(4, 0, 0));
        gives(x, "four places", x.told(0), 4);
        Check.villageFault(many(5, 0, 0), 6, many(4, 0, 0).length());
        edge(10, "VANES, at most 8: TEETH (4 to 60), a PLACE,");
        x = Check.town(many(1, 8, 0));
        gives(x, "eight vanes", x.told(1), 8);
        Check.villageFault(many(1, 9, 0), 6, many(1, 8, 0).length());
        number("place p;vane a teeth ", " at p;", 4, 60, 0);
        edge(10, "how STIFF (0 to 99; 0 without),");
        number("place p;vane a teeth 8 at p stiff ", ";", 0, 99, 2);
        x = Check.town(TWO);
        gives(x, "without", x.vane(0, 2), 0);
        edge(10, "where it POINTS at first: a tooth (0 to TEETH less 1; 0 without; tooth 0 is north, they are numbered to the right).");
        number("place p;vane a teeth 4 at p points ", ";", 0, 3, 3);
        number("place p;vane a teeth 60 at p stiff 1 points ", ";", 0, 59, 3);
        x = Check.town(TWO);
        gives(x, "without", x.vane(0, 3), 0);
        takes(x, "from north", x.wind(0, 0, 1));
        gives(x, "right at tooth 0", x.right(0), 1);
        gives(x, "a tooth to the right", x.turn(0, 1), 1);
        gives(x, "is tooth 1", x.vane(0, 3), 1);
    }

    private static void shafts() {
        edge(10, "SHAFTS, at most 10, gears and belts: of two VANES, SLACK (0 to 9; 0 without).");
        VaneTown x = Check.town(many(1, 2, 10));
        gives(x, "ten of both", x.told(2), 10);
        for (int s = 0; s < 10; s++) {
            gives(x, "belts and gears", x.shaft(s, 2), s % 2);
            gives(x, "slack", x.shaft(s, 3), s);
        }
        Check.villageFault(many(1, 2, 11), 6, many(1, 2, 10).length());
        Check.villageFault(many(1, 2, 10) + "belt", 6, many(1, 2, 10).length());
        number(TWO + "gear g of a b slack ", ";", 0, 9, 9);
        number(TWO + "belt g of a b slack ", ";", 0, 9, 9);
        x = Check.town(TWO + "gear g of a b;belt h of b a;");
        gives(x, "without", x.shaft(0, 3), 0);
        gives(x, "without", x.shaft(1, 3), 0);
    }

    private static void numbersOfThings() {
        edge(10, "All are numbered as they stand; what a PART names must be told ahead.");
        VaneTown x = Check.town("place p;vane b teeth 9 at p;place q;vane a teeth 8 at q;gear h of a b slack 2;"
                + "vane c teeth 7 at p;belt g of c b slack 1;");
        int[] teeth = {9, 8, 7};
        int[] place = {0, 1, 0};
        for (int v = 0; v < 3; v++) {
            gives(x, "teeth", x.vane(v, 0), teeth[v]);
            gives(x, "place", x.vane(v, 1), place[v]);
        }
        int[][] shafts = {{1, 0, 0, 2}, {2, 0, 1, 1}};
        for (int s = 0; s < 2; s++) {
            for (int what = 0; what < 4; what++) {
                gives(x, "shaft " + s + ", " + what, x.shaft(s, what), shafts[s][what]);
            }
        }
        Check.villageFault("vane a teeth 8 at p;place p;", 3, 18);
        Check.villageFault("place p;vane a teeth 8 at p;gear g of a b;vane b teeth 8 at p;", 3, 40);
        Check.villageFault("place p;vane a teeth 8 at p;gear g of b a;vane b teeth 8 at p;", 3, 38);
    }

    private static void faultsOfTokens() {
        edge(10, "FAULTS, the first along the text (of one TOKEN the least kind):");
        Check.villageFault("place p place p;.", 2, 8);
        Check.villageFault("place p;place p;.", 3, 14);
        Check.villageFault("place p;vane a teeth 3 at q;", 4, 21);
        Check.villageFault("place p;vane a teeth 99999 at q;", 1, 21);
        Check.villageFault("place p;vane a teeth 8 at q stiff 100;", 3, 26);
        Check.villageFault(TWO + "gear a of a a;", 3, TWO.length() + 5);
        Check.villageFault(many(4, 0, 0) + "place place", 6, many(4, 0, 0).length());
        Check.villageFault(many(4, 0, 0) + "12345", 1, many(4, 0, 0).length());
        edge(10, "1 no TOKEN begins so (a NUMBER of 5 digits and more: at its first).");
        Check.villageFault("place p;12345", 1, 8);
        Check.villageFault("place 123456789012345678901234567890;", 1, 6);
        Check.villageFault("place p;vane a teeth 00004 at p;", 1, 21);
        Check.villageFault("place p;vane a teeth 4294967304 at p;", 1, 21);
        Check.villageFault("place p;vane a teeth 4 at p stiff -1;", 1, 34);
        Check.villageFault("Place p;", 1, 0);
        Check.villageFault("place p:", 1, 7);
        edge(10, "2 it can't stand there (the end: the text's length; a WORD of 9 letters and more where a NAME must stand).");
        Check.villageFault("place", 2, 5);
        Check.villageFault("place p \n ", 2, 10);
        Check.villageFault("place abcdefghi", 2, 6);
        Check.villageFault("place abcdefghijklmnopqrstuvwxyz;", 2, 6);
        Check.villageFault("placeplace p;", 2, 0);
        Check.villageFault("place p;end;", 2, 8);
        Check.villageFault("place p;stop;", 2, 8);
        Check.villageFault("place 1;", 2, 6);
    }

    /** Each TOKEN of a whole VILLAGE in turn gives way to one that can't stand there. */
    private static void faultsByThePlaceOfTheToken() {
        edge(10, "2 it can't stand there");
        String[] never = {"<", ">", "=", "loop", "end", "abcdefghi"};
        for (int i = 0; i < TOKENS.length; i++) {
            String ahead = tokens(i);
            Check.villageFault(ahead + ".", 1, ahead.length());
            Check.villageFault(ahead + "00000", 1, ahead.length());
            for (String token : never) {
                Check.villageFault(ahead + token + " ;", 2, ahead.length());
            }
            if (!mayEndAheadOf(i)) {
                Check.villageFault(ahead + "; ;", 2, ahead.length());
            }
            if (!Character.isDigit(TOKENS[i].charAt(0))) {
                Check.villageFault(ahead + "4 ;", 2, ahead.length());
            }
        }
    }

    private static boolean mayEndAheadOf(int i) {
        return TOKENS[i].equals(";") || TOKENS[i].equals("stiff") || TOKENS[i].equals("points") || TOKENS[i].equals("slack");
    }

    private static void faultsOfNames() {
        edge(10, "3 a new NAME that is taken; a NAME that is no such thing told ahead.");
        String text = TWO + "gear g of a b;";
        String[] noPlace = {"a", "g", "z", "c"};
        for (String name : noPlace) {
            Check.villageFault(text + "vane c teeth 4 at " + name + ";", 3, text.length() + 18);
        }
        String[] noVane = {"p", "g", "z", "h"};
        for (String name : noVane) {
            Check.villageFault(text + "gear h of " + name + " b;", 3, text.length() + 10);
            Check.villageFault(text + "belt h of a " + name + ";", 3, text.length() + 12);
            Check.villageFault(text + "belt h of " + name + " " + name + ";", 3, text.length() + 10);
        }
        Check.villageFault("place p;place p", 3, 14);
    }

    private static void faultsOfNumbersAndSelves() {
        edge(10, "4 a NUMBER that can't be.");
        Check.villageFault("place p;vane a teeth 3 at p;", 4, 21);
        Check.villageFault("place p;vane a teeth 61", 4, 21);
        Check.villageFault("place p;vane a teeth 8 at p stiff 100;", 4, 34);
        Check.villageFault("place p;vane a teeth 8 at p points 8;", 4, 35);
        Check.villageFault(TWO + "gear g of a b slack 10;", 4, TWO.length() + 20);
        edge(10, "5 a SHAFT of one VANE and itself (at the second NAME).");
        Check.villageFault(TWO + "gear g of a a;", 5, TWO.length() + 12);
        Check.villageFault(TWO + "belt g of b b", 5, TWO.length() + 12);
        Check.villageFault(TWO + "belt g of b  b slack 10;", 5, TWO.length() + 13);
    }

    private static void faultsOfOneMore() {
        edge(10, "6 one more place, vane, gear or belt than there may be (at that WORD).");
        String full = many(4, 8, 10);
        VaneTown x = Check.town(full);
        gives(x, "as many as there may be", x.told(0) + x.told(1) + x.told(2), 22);
        String[] parts = {"place", "vane", "gear", "belt"};
        for (String part : parts) {
            Check.villageFault(full + part, 6, full.length());
            Check.villageFault(full + part + " pa;", 6, full.length());
            Check.villageFault(full + "\n " + part + ";", 6, full.length() + 2);
        }
        Check.villageFault(full + "teeth", 2, full.length());
        x = Check.town(many(4, 8, 9) + "belt sj of vc vd;");
        gives(x, "the tenth", x.shaft(9, 1), 3);
    }

    private static void takenAnew() {
        edge(10, "A VILLAGE that is taken is there in place of that ahead; it is calm everywhere, no SHAFT is LIFTED, "
                + "no VANE HELD, all PLAY is 0, nothing was turned, it is QUARTER 0, there are no ORDERS.");
        String text = "place p;place q;vane a teeth 4 at p points 3;vane b teeth 4 at q;belt h of a b slack 9;gear g of a b slack 9;";
        VaneTown x = Check.town(text);
        takes(x, "wind", x.wind(0, 5, 9));
        takes(x, "wind", x.wind(1, 6, 9));
        gives(x, "turn", x.turn(0, 5), 5);
        gives(x, "turn", x.turn(1, 1), 1);
        gives(x, "struck", x.vane(0, 5), 2);
        gives(x, "pass", x.pass(3), 3);
        takes(x, "lift", x.lift(1, true));
        takes(x, "hold", x.hold(0, true));
        Check.ordersTaken(x, "stop;", 1);
        gives(x, "run", x.run(0), 1);
        gives(x, "the same text again", Check.village(x, text), 2);
        for (int i = 0; i < 2; i++) {
            gives(x, "direction", x.windAt(i, 0), 0);
            gives(x, "calm", x.windAt(i, 1), 0);
            gives(x, "points as at first", x.vane(i, 3), i == 0 ? 3 : 0);
            gives(x, "not turned", x.vane(i, 4), 0);
            gives(x, "not struck", x.vane(i, 5), 0);
            gives(x, "no PLAY", x.shaft(i, 4), 0);
        }
        for (int what = 3; what <= 5; what++) {
            gives(x, "told(" + what + ")", x.told(what), 0);
        }
        refuses(x, "no ORDERS", x.run(0), 6);
        gives(x, "a lesser one", Check.village(x, "place r;"), 0);
        gives(x, "one place", x.told(0), 1);
        gives(x, "no shaft", x.told(2), 0);
        refuses(x, "no vane 0", x.vane(0, 0), 1);
        refuses(x, "no place 1", x.windAt(1, 0), 1);
    }

    private static void faultIsTold() {
        edge(12, "Of the latest village() or orders() with STATUS 0 or 9, what 0: the FAULT (0 without one), 1: its place (NONE without).");
        VaneTown x = new VaneTown();
        refuses(x, "village", Check.village(x, "place p"), 9);
        due("the FAULT", x.fault(0), 2);
        due("its place", x.fault(1), 7);
        refuses(x, "one with STATUS 1 tells nothing", x.village(-1), 1);
        refuses(x, "one with STATUS 1 tells nothing", x.orders(1), 1);
        due("the FAULT", x.fault(0), 2);
        due("its place", x.fault(1), 7);
        refuses(x, "orders", Check.orders(x, " ."), 9);
        due("the FAULT", x.fault(0), 1);
        due("its place", x.fault(1), 1);
        gives(x, "village", Check.village(x, "place p;"), 0);
        due("without one", x.fault(0), 0);
        due("without one", x.fault(1), NONE);
        refuses(x, "a FAULT at place 0", Check.village(x, ";"), 9);
        due("its place", x.fault(1), 0);
        gives(x, "orders", Check.orders(x, "stop;"), 1);
        due("without one", x.fault(0), 0);
        due("without one", x.fault(1), NONE);
        edge(12, "NONE for others, and ahead of any.");
        VaneTown y = new VaneTown();
        y.village(1);
        int[] whats = {-1, 0, 1, 2, Integer.MIN_VALUE, Integer.MAX_VALUE};
        for (int what : whats) {
            due("ahead of any: fault(" + what + ")", y.fault(what), NONE);
            if (what < 0 || what > 1) {
                due("fault(" + what + ")", x.fault(what), NONE);
            }
        }
    }
}
