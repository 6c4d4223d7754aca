/** Edges of promise 11: the ORDERS' text and its FAULTS. */
final class EdgesOfOrders extends Edges {
    private static final String TOWN = "place p;place q;vane a teeth 8 at p;vane b teeth 9 at q;gear g of a b;belt h of b a;";
    /** All STEPS, a TOKEN each. */
    private static final String[] TOKENS = ("wind p 4 9 ; gust 5 ; wait 3 ; lift g ; lower h ; hold a ; free b ; turn a 3 ; "
            + "when points a < 3 ; stop ; end ; when points b > 3 ; end ; when points b = 3 ; end ; when right a ; wait 1 ; end ; "
            + "loop 2 ; wait 1 ; end ; stop ;").split(" ");

    private EdgesOfOrders() {
    }

    static void all() {
        asked();
        steps();
        eachTokenInTurn();
        namesOfThings();
        numbers();
        faultsOfTokens();
        mostSteps();
        mostDeep();
        anewBehindFaults();
    }

    private static void asked() {
        edge(11, "Likewise ORDERS: how many STEPS (1: above 300, too; 9).");
        VaneTown x = Check.town(TOWN);
        Check.feed(x, "stop;stop;wait 1;" + " ".repeat(300));
        refuses(x, "below 0", x.orders(-1), 1);
        refuses(x, "least", x.orders(Integer.MIN_VALUE), 1);
        refuses(x, "most", x.orders(Integer.MAX_VALUE), 1);
        refuses(x, "301", x.orders(301), 1);
        refuses(x, "320: all there is", x.orders(320), 1);
        refuses(x, "321", x.orders(321), 1);
        gives(x, "300", x.orders(300), 3);
        refuses(x, "the tape is empty then", x.orders(1), 1);
        due("feed", x.feed(0x73746f70, 0x3b2e2e2e, 0, 0, 0), 20);
        refuses(x, "more than the tape has", x.orders(21), 1);
        gives(x, "the first five bytes", x.orders(5), 1);
        refuses(x, "the tape is empty then", x.orders(1), 1);
        gives(x, "none at all", x.orders(0), 0);
        edge(11, "ORDERS are a TEXT of at most 300 bytes, of such TOKENS (none at first).");
        Check.ordersTaken(x, " ".repeat(295) + "stop;", 1);
        Check.ordersFault(x, " ".repeat(299) + ".", 1, 299);
        Check.ordersFault(x, " ".repeat(296) + "stop", 2, 300);
        Check.ordersTaken(x, "\nwait\n07;wait0007;", 2);
        VaneTown none = new VaneTown();
        refuses(none, "none at first", none.run(0), 6);
        Check.ordersTaken(none, "gust 3;wait 9;", 2);
        gives(none, "without places and vanes", none.run(0), 2);
        gives(x, "two STEPS", Check.orders(x, "stop;wait 1;"), 2);
        refuses(x, "a FAULT", Check.orders(x, "wait 1;wait 1;wait 0;"), 9);
        due("the tape is empty then", x.feed(0, 0, 0, 0, 0), 20);
        gives(x, "the old ones stay", x.run(0), 1);
    }

    private static void taken(String text, int steps) {
        Check.ordersTaken(Check.town(TOWN), text, steps);
    }

    private static void fault(String text, int fault, int place) {
        Check.ordersFault(Check.town(TOWN), text, fault, place);
    }

    private static String tokens(int many) {
        StringBuilder text = new StringBuilder();
        for (int i = 0; i < many; i++) {
            text.append(TOKENS[i]).append(' ');
        }
        return text.toString();
    }

    /** How many when and loop are open behind so many TOKENS. */
    private static int open(int many) {
        int open = 0;
        for (int i = 0; i < many; i++) {
            open += TOKENS[i].equals("when") || TOKENS[i].equals("loop") ? 1 : TOKENS[i].equals("end") ? -1 : 0;
        }
        return open;
    }

    private static void steps() {
        edge(11, "ORDERS: {STEP}.");
        taken("", 0);
        taken(" \n", 0);
        edge(11, "STEP: wind NAME NUMBER NUMBER ; or gust NUMBER ; or wait NUMBER ; or lift NAME ; or lower NAME ; or hold NAME ; or free NAME ; "
                + "or turn NAME NUMBER ; or when TEST ; {STEP} end ; or loop NUMBER ; {STEP} end ; or stop ;");
        int many = 0;
        for (int i = 0; i <= TOKENS.length; i++) {
            String text = tokens(i);
            if (i > 0 && TOKENS[i - 1].equals(";") && !TOKENS[i - 2].equals("end")) {
                many++;
            }
            if (i == 0 || TOKENS[i - 1].equals(";") && open(i) == 0) {
                taken(text, many);
            } else {
                fault(text, 2, text.length());
            }
        }
        edge(11, "TEST: points NAME COMPARES NUMBER, or right NAME. COMPARES: &lt; or &gt; or =");
        taken("when points a<0;end;when points a>60;end;when points b=7;end;when right b;end;", 4);
        fault("when points a 3;end;", 2, 14);
        fault("when points a<>3;end;", 2, 14);
        fault("when points<a 3;end;", 2, 11);
        fault("when points a<b;end;", 2, 14);
        fault("when points a;3;end;", 2, 13);
        fault("when right a=1;end;", 2, 12);
        fault("when right;end;", 2, 10);
        fault("when;end;", 2, 4);
        fault("when a;end;", 2, 5);
        fault("when loop;end;", 2, 5);
        fault("when wind p 0 0;end;", 2, 5);
    }

    private static void eachTokenInTurn() {
        edge(11, "FAULTS: 1, 2 as above (an end without a beginning; the text's end ahead of an end: 2).");
        String[] never = {"teeth", "place", "slack", "abcdefghi"};
        for (int i = 0; i < TOKENS.length; i++) {
            String ahead = tokens(i);
            fault(ahead + ".", 1, ahead.length());
            fault(ahead + "00001 ;", 1, ahead.length());
            for (String token : never) {
                fault(ahead + token + " ;", 2, ahead.length());
            }
            if (!TOKENS[i].equals(";")) {
                fault(ahead + "; ;", 2, ahead.length());
            }
            if (!"<>=".contains(TOKENS[i])) {
                fault(ahead + "= ;", 2, ahead.length());
            }
            if (!Character.isDigit(TOKENS[i].charAt(0))) {
                fault(ahead + "4 ;", 2, ahead.length());
            }
        }
        fault("end;", 2, 0);
        fault("stop;end;", 2, 5);
        fault("loop 2;end;end;", 2, 11);
        fault("loop 2;", 2, 7);
        fault("loop 2;loop 2;end;", 2, 18);
        fault("when right a;stop;  ", 2, 20);
        fault("loop 2;end", 2, 10);
        fault("loop 2;end 2;", 2, 11);
        fault("loop 2 end;", 2, 7);
    }

    private static void namesOfThings() {
        edge(11, "(Of wind a PLACE, of lift, lower a SHAFT, else VANES.)");
        taken("wind p 0 0;wind q 0 0;lift g;lift h;lower g;lower h;hold a;hold b;free a;free b;turn a 1;turn b 1;", 12);
        edge(11, "3 a NAME that is no such one.");
        String[][] none = {{"wind ", " 0 0;", "a", "b", "g", "h", "z"}, {"lift ", ";", "p", "q", "a", "b", "z"},
            {"lower ", ";", "p", "q", "a", "b", "z"}, {"hold ", ";", "p", "q", "g", "h", "z"}, {"free ", ";", "p", "q", "g", "h", "z"},
            {"turn ", " 1;", "p", "q", "g", "h", "z"}, {"when points ", "<1;end;", "p", "q", "g", "h", "z"},
            {"when right ", ";end;", "p", "q", "g", "h", "z"}};
        for (String[] row : none) {
            for (int i = 2; i < row.length; i++) {
                fault(row[0] + row[i] + row[1], 3, row[0].length());
            }
            fault(row[0] + "stop" + row[1], 2, row[0].length());
            fault(row[0] + "abcdefghi" + row[1], 2, row[0].length());
            fault(row[0] + "1" + row[1], 2, row[0].length());
        }
        VaneTown x = Check.town(TOWN);
        gives(x, "another village", Check.village(x, "place a;vane p teeth 4 at a;"), 1);
        Check.ordersTaken(x, "wind a 0 0;hold p;", 2);
        Check.ordersFault(x, "lift g;", 3, 5);
        Check.ordersFault(x, "wind p 0 0;", 3, 5);
    }

    private static void number(String ahead, String behind, int least, int most) {
        taken(ahead + least + behind, 1);
        taken(ahead + most + behind, 1);
        if (least > 0) {
            fault(ahead + (least - 1) + behind, 4, ahead.length());
        }
        fault(ahead + (most + 1) + behind, 4, ahead.length());
        fault(ahead + 9999 + behind, 4, ahead.length());
        fault(ahead + 10000 + behind, 1, ahead.length());
    }

    private static void numbers() {
        edge(11, "4 a NUMBER that can't be. 6 a 31st STEP");
        edge(11, "wind: from a DIRECTION (0 to 15), so STRONG (0 to 99) at a PLACE from now on;");
        number("wind p ", " 0;", 0, 15);
        number("wind q 15 ", ";", 0, 99);
        edge(11, "gust n (0 to 99):");
        number("gust ", ";", 0, 99);
        edge(11, "wait n (1 to 99) QUARTERS;");
        number("wait ", ";", 1, 99);
        edge(11, "turn: by hand, so many (1 to 99) to the right.");
        number("turn a ", ";", 1, 99);
        edge(11, "when: where it POINTS is so (0 to 60);");
        number("when points a<", ";end;", 0, 60);
        number("when points a>", ";end;", 0, 60);
        number("when points b=", ";end;", 0, 60);
        edge(11, "loop n (1 to 99): as often.");
        number("loop ", ";end;", 1, 99);
    }

    private static void faultsOfTokens() {
        edge(11, "FAULTS, the first along the text (of one TOKEN the least kind):");
        fault("wait 0;.", 4, 5);
        fault("wait 0.", 4, 5);
        fault("hold z;wait 0;", 3, 5);
        fault("hold hold;hold z;", 2, 5);
        fault("turn z 100;", 3, 5);
        fault("wind p 16 100;", 4, 7);
        fault("wait 123456;", 1, 5);
        fault("wait -1;", 1, 5);
    }

    private static void mostSteps() {
        edge(11, "6 a 31st STEP (at its WORD; end is none).");
        taken("stop;".repeat(30), 30);
        taken("loop1;end;".repeat(30), 30);
        taken("stop;".repeat(29) + "loop 2;end;", 30);
        String thirty = "stop;".repeat(30);
        String[] words = {"wind", "gust", "wait", "lift", "lower", "hold", "free", "turn", "when", "loop", "stop"};
        for (String word : words) {
            fault(thirty + " " + word, 6, 151);
            fault(thirty + word + " z z z;", 6, 150);
        }
        fault(thirty + "end;", 2, 150);
        fault(thirty + "teeth", 2, 150);
        fault(thirty + ";", 2, 150);
        fault(thirty + "12345", 1, 150);
        fault("loop1;end;".repeat(29) + "loop1;stop", 6, 296);
        String within = "loop 1;loop 1;loop 1;" + "stop;".repeat(27);
        taken(within + "end;end;end;", 30);
        fault(within + "stop;end;end;end;", 6, within.length());
        fault(within + "end;end;end;stop;", 6, within.length() + 12);
    }

    /** What was open in a text with a FAULT is not open in the next. */
    private static void anewBehindFaults() {
        edge(11, "7 a when, loop within three others");
        VaneTown x = Check.town(TOWN);
        Check.ordersFault(x, "loop 2;loop 2;loop 2;", 2, 21);
        Check.ordersTaken(x, "loop 2;loop 2;loop 2;end;end;end;", 3);
        Check.ordersFault(x, "loop 2;loop 2;stop", 2, 18);
        Check.ordersTaken(x, "stop;", 1);
        Check.ordersFault(x, "loop 2;wait 0;", 4, 12);
        Check.ordersFault(x, "end;", 2, 0);
        Check.ordersFault(x, "stop;".repeat(30) + "stop;", 6, 150);
        Check.ordersTaken(x, "stop;", 1);
        gives(x, "run", x.run(0), 1);
    }

    private static void mostDeep() {
        edge(11, "7 a when, loop within three others (at its WORD).");
        String[] openers = {"loop 2;", "when right a;", "when points a<3;"};
        for (String first : openers) {
            for (String second : openers) {
                for (String third : openers) {
                    String three = first + second + third;
                    taken(three + "stop;end;end;end;", 4);
                    fault(three + "loop", 7, three.length());
                    fault(three + "when z;end;end;end;end;", 7, three.length());
                    fault(three + "stop; loop 0;", 7, three.length() + 6);
                }
            }
        }
        String three = "loop 2;loop 2;loop 2;";
        taken(three + "end;loop 2;end;end;loop 2;loop 2;end;end;end;", 6);
        taken(three + "end;end;end;" + three + "end;end;end;", 6);
        fault(three + "end;loop 2;loop 2;", 7, three.length() + 11);
        String last = "stop;".repeat(27) + three;
        fault(last + "loop 2;", 6, last.length());
        String ahead = "stop;".repeat(26) + three;
        fault(ahead + "loop 2;", 7, ahead.length());
    }
}
