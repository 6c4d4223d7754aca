/** Edges of promises 18 to 24: winds, clutches, held vanes, quarters that go by, turning by hand. */
final class EdgesOfDoing extends Edges {
    private static final String PAIR = "place p;place q;vane a teeth 8 at p;vane b teeth 8 at q;";

    private EdgesOfDoing() {
    }

    static void all() {
        wind();
        windAt();
        lift();
        hold();
        playIsInItsBounds();
        playByTurns();
        draggedAlong();
        blocked();
        drags();
        oneByOneByNumbers();
        thoseThatDoNothing();
        shorterWay();
        forAndAgainst();
        draggedOnesForAndAgainst();
        bells();
        pass();
        byHand();
        turn();
    }

    private static void wind() {
        edge(18, "WIND at a PLACE from a DIRECTION, so STRONG (1).");
        VaneTown x = Check.town(PAIR);
        bounds(x, "place", n -> asNumber(x.wind(n, 3, 4)), 0, 1);
        VaneTown four = Check.town(EdgesOfWhatIsTold.fullTown());
        bounds(four, "place of four", n -> asNumber(four.wind(n, 3, 4)), 0, 3);
        edge(18, "WIND at a PLACE blows from a DIRECTION (sixteenths round to the right from north, 0 to 15) "
                + "and is so STRONG (0 to 99; 0: calm).");
        bounds(x, "direction", n -> asNumber(x.wind(0, n, 50)), 0, 15);
        gives(x, "the last that was taken", x.windAt(0, 0), 15);
        gives(x, "so strong", x.windAt(0, 1), 50);
        bounds(x, "strong", n -> asNumber(x.wind(1, 7, n)), 0, 99);
        gives(x, "the last that was taken", x.windAt(1, 1), 99);
        VaneTown y = Check.town("place p;vane a teeth 16 at p;");
        for (int direction = 0; direction < 16; direction++) {
            takes(y, "wind", y.wind(0, direction, 1));
            gives(y, "a sixteenth is a tooth of 16", y.wants(0), direction);
        }
        takes(y, "0 strong", y.wind(0, 5, 0));
        refuses(y, "calm", y.wants(0), 6);
    }

    private static void windAt() {
        edge(19, "The DIRECTION (what 0), how STRONG (1) (1).");
        VaneTown x = Check.town(PAIR);
        gives(x, "calm at first", x.windAt(0, 1), 0);
        takes(x, "wind", x.wind(1, 15, 99));
        gives(x, "direction", x.windAt(1, 0), 15);
        gives(x, "strong", x.windAt(1, 1), 99);
        gives(x, "the other one's direction", x.windAt(0, 0), 0);
        gives(x, "the other one's strength", x.windAt(0, 1), 0);
        bounds(x, "place", n -> x.windAt(n, 0), 0, 1);
        bounds(x, "what", n -> x.windAt(1, n), 0, 1);
    }

    private static void lift() {
        edge(20, "A SHAFT is LIFTED, or no more (1).");
        VaneTown x = Check.town(PAIR + "belt g of a b;belt h of a b;");
        bounds(x, "lift", n -> asNumber(x.lift(n, true)), 0, 1);
        gives(x, "both", x.told(4), 3);
        beyond(x, "lower", n -> asNumber(x.lift(n, false)), 0, 1);
        takes(x, "lifted twice", x.lift(0, true));
        gives(x, "both still", x.told(4), 3);
        takes(x, "lower", x.lift(0, false));
        takes(x, "lowered twice", x.lift(0, false));
        gives(x, "the second", x.told(4), 2);
        gives(x, "one is enough to drag", x.drags(0, 1), 3);
        takes(x, "lift", x.lift(0, true));
        gives(x, "none drags", x.drags(0, 1), 1);
    }

    private static void hold() {
        edge(21, "A VANE is HELD, or no more (1).");
        VaneTown x = Check.town(PAIR);
        bounds(x, "hold", n -> asNumber(x.hold(n, true)), 0, 1);
        gives(x, "both", x.told(5), 3);
        beyond(x, "free", n -> asNumber(x.hold(n, false)), 0, 1);
        takes(x, "held twice", x.hold(1, true));
        takes(x, "free", x.hold(0, false));
        takes(x, "freed twice", x.hold(0, false));
        gives(x, "the second", x.told(5), 2);
        gives(x, "the first turns", x.turn(0, 1), 1);
        gives(x, "the second does not", x.turn(1, 1), 0);
    }

    private static void playIsInItsBounds() {
        edge(15, "PLAY of a SHAFT is 0 to its SLACK.");
        for (int slack = 0; slack <= 9; slack++) {
            for (int belt = 0; belt <= 1; belt++) {
                VaneTown x = Check.town(PAIR + (belt == 1 ? "belt" : "gear") + " g of a b slack " + slack + ";");
                takes(x, "hold", x.hold(1, true));
                gives(x, "to the right as far as SLACK", x.turn(0, 99), slack);
                gives(x, "PLAY", x.shaft(0, 4), slack);
                gives(x, "back to 0", x.turn(0, -99), slack);
                gives(x, "PLAY", x.shaft(0, 4), 0);
                takes(x, "free", x.hold(1, false));
                takes(x, "hold", x.hold(0, true));
                int way = belt == 1 ? -1 : 1;
                gives(x, "the second as far as SLACK", x.turn(1, 99 * way), slack);
                gives(x, "PLAY", x.shaft(0, 4), slack);
                gives(x, "back to 0", x.turn(1, -99 * way), slack);
                gives(x, "PLAY", x.shaft(0, 4), 0);
            }
        }
    }

    private static void playByTurns() {
        edge(15, "A VANE that turns by a tooth (1 to the right, -1 to the left) changes the PLAY of its SHAFTS that are not LIFTED: "
                + "of the first VANE of a SHAFT by as much; of the second one of a gear by as much, of a belt by the contrary.");
        VaneTown x = Check.town(PAIR + "gear g of a b slack 9;belt h of a b slack 9;belt i of b a slack 9;");
        takes(x, "lift", x.lift(2, true));
        int[][] turns = {{0, 2, 2, 2}, {1, 1, 3, 1}, {1, -1, 2, 2}, {0, -1, 1, 1}, {0, 3, 4, 4}, {1, 4, 8, 0}, {1, -2, 6, 2}};
        for (int[] turn : turns) {
            gives(x, "vane " + turn[0] + " by " + turn[1], x.turn(turn[0], turn[1]), Math.abs(turn[1]));
            gives(x, "PLAY of the gear", x.shaft(0, 4), turn[2]);
            gives(x, "PLAY of the belt", x.shaft(1, 4), turn[3]);
            gives(x, "PLAY of the one that is lifted", x.shaft(2, 4), 0);
        }
        point(x, "none was dragged", 4, 2);
        takes(x, "lower", x.lift(2, false));
        gives(x, "PLAY is as it was", x.shaft(2, 4), 0);
        gives(x, "b to the right as the first of i", x.turn(1, 1), 1);
        gives(x, "PLAY", x.shaft(2, 4), 1);
    }

    private static void draggedAlong() {
        edge(24, "To TURN a VANE by a tooth: it DRAGS along what it must: as long as there is a SHAFT, not LIFTED, of two VANES of which "
                + "one turns and the other does not (yet), whose PLAY would leave its bounds, the other one turns, too, "
                + "so that the PLAY stays as it was: the least such SHAFT first.");
        // The shafts stand against the order in which they are come to.
        StringBuilder text = new StringBuilder("place p;");
        for (char v = 'a'; v <= 'h'; v++) {
            text.append("vane ").append(v).append(" teeth 8 at p;");
        }
        for (char v = 'g'; v >= 'a'; v--) {
            text.append("gear g").append(v).append(" of ").append(v).append(' ').append((char) (v + 1)).append(';');
        }
        VaneTown x = Check.town(text.toString());
        gives(x, "all eight", x.drags(0, 1), 255);
        gives(x, "all eight from the other end", x.drags(7, -1), 255);
        gives(x, "all eight from within", x.drags(3, 1), 255);
        gives(x, "turn", x.turn(0, 1), 1);
        point(x, "each contrary to the next", 1, 7, 1, 7, 1, 7, 1, 7);
        for (int s = 0; s < 7; s++) {
            gives(x, "PLAY stays as it was", x.shaft(s, 4), 0);
        }
        takes(x, "lift the one of d and e", x.lift(3, true));
        gives(x, "up to d", x.drags(0, 1), 15);
        gives(x, "from e on", x.drags(7, 1), 240);
        VaneTown y = Check.town(PAIR + "belt h of a b slack 1;");
        gives(y, "PLAY 0: to the right without it", y.drags(0, 1), 1);
        gives(y, "to the left with it", y.drags(0, -1), 3);
        gives(y, "b to the right with a", y.drags(1, 1), 3);
        gives(y, "b to the left without it", y.drags(1, -1), 2);
        gives(y, "turn", y.turn(0, 1), 1);
        gives(y, "PLAY 1: with it", y.drags(0, 1), 3);
        gives(y, "to the left without it", y.drags(0, -1), 1);
        gives(y, "turn", y.turn(0, 3), 3);
        gives(y, "PLAY stays as it was", y.shaft(0, 4), 1);
        point(y, "dragged three teeth", 4, 3);
        VaneTown z = Check.town(PAIR + "gear g of a b;belt h of a b;");
        refuses(z, "the gear drags b, the belt can't go with it", z.drags(0, 1), 7);
        refuses(z, "nor to the left", z.drags(0, -1), 7);
    }

    private static void blocked() {
        edge(24, "It is BLOCKED, if one of those that turn is HELD,");
        VaneTown x = Check.town(PAIR + "vane c teeth 8 at q;belt g of a b;belt h of b c slack 1;");
        takes(x, "hold c", x.hold(2, true));
        gives(x, "PLAY 0: b to the right without c", x.drags(0, 1), 3);
        refuses(x, "b to the left with c", x.drags(0, -1), 7);
        refuses(x, "c itself", x.drags(2, 1), 7);
        refuses(x, "c itself, by its PLAY", x.drags(2, -1), 7);
        takes(x, "hold b", x.hold(1, true));
        refuses(x, "b", x.drags(0, 1), 7);
        takes(x, "free c", x.hold(2, false));
        gives(x, "c by its PLAY", x.drags(2, -1), 4);
        refuses(x, "c with b", x.drags(2, 1), 7);
        edge(24, "or if behind it all a SHAFT's PLAY (of two that both turn) would be out of its bounds.");
        // In a ring of three gears each tooth takes two of the SLACK of one of them.
        String three = "place p;vane a teeth 8 at p;vane b teeth 8 at p;vane c teeth 8 at p;";
        int[] teeth = {0, 0, 1, 1, 2, 2, 3, 3, 4, 4};
        for (int slack = 0; slack <= 9; slack++) {
            VaneTown y = Check.town(three + "gear g of a b;gear h of b c;gear i of c a slack " + slack + ";");
            gives(y, "SLACK " + slack, y.turn(0, 99), teeth[slack]);
            gives(y, "PLAY", y.shaft(2, 4), 2 * teeth[slack]);
            refuses(y, "one more", y.drags(0, 1), 7);
            gives(y, "and back", y.turn(0, -99), teeth[slack]);
            y = Check.town(three + "gear i of c a slack " + slack + ";gear g of a b;gear h of b c;");
            gives(y, "as the first SHAFT, SLACK " + slack, y.turn(0, 99), teeth[slack]);
        }
        VaneTown z = Check.town(three + "gear g of a b;gear h of b c;belt i of c a;");
        gives(z, "a ring that goes round", z.turn(0, 99), 99);
    }

    private static void drags() {
        edge(24, "DRAGGED along by turning one by a tooth (1 or -1), with it: a set (1; 7: BLOCKED).");
        VaneTown x = Check.town(PAIR + "belt g of a b;");
        takes(x, "hold", x.hold(1, true));
        refuses(x, "1 ahead of 7", x.drags(-1, 1), 1);
        refuses(x, "1 ahead of 7", x.drags(2, 1), 1);
        int[] teeth = {0, 2, -2, Integer.MIN_VALUE, Integer.MAX_VALUE};
        for (int tooth : teeth) {
            refuses(x, "tooth " + tooth, x.drags(1, tooth), 1);
        }
        refuses(x, "blocked", x.drags(0, 1), 7);
        refuses(x, "blocked", x.drags(0, -1), 7);
        takes(x, "free", x.hold(1, false));
        bounds(x, "vane", n -> x.drags(n, 1), 0, 1);
        gives(x, "-1", x.drags(1, -1), 3);
        point(x, "nothing is turned by it", 0, 0);
    }

    private static void oneByOneByNumbers() {
        edge(22, "QUARTER hours: in each the VANES one by one, by numbers:");
        // a takes b along to 1 and 2, then b goes on by itself and takes a along: both turn twice.
        VaneTown x = Check.town("place p;vane a teeth 16 at p;vane b teeth 16 at p points 1;belt h of a b;");
        takes(x, "wind", x.wind(0, 8, 5));
        gives(x, "pass", x.pass(1), 1);
        point(x, "one behind the other", 2, 3);
        // a is blocked by b as long as b is not gone; b goes behind it in the same quarter.
        VaneTown y = Check.town(PAIR + "belt h of b a;");
        takes(y, "a to the right", y.wind(0, 4, 5));
        takes(y, "b against it as much", y.wind(1, 12, 5));
        gives(y, "pass", y.pass(9), 9);
        point(y, "neither", 0, 0);
        takes(y, "b a little less", y.wind(1, 12, 4));
        gives(y, "pass", y.pass(1), 10);
        point(y, "a takes b along, b can't go back", 1, 1);
    }

    private static void thoseThatDoNothing() {
        edge(22, "one that is HELD, at calm, or RIGHT, does nothing.");
        VaneTown x = Check.town("place p;place q;vane a teeth 8 at p;vane b teeth 8 at q;vane c teeth 8 at p points 2;");
        takes(x, "wind", x.wind(0, 4, 99));
        takes(x, "hold", x.hold(0, true));
        gives(x, "pass", x.pass(5), 5);
        point(x, "held, at calm, right", 0, 0, 2);
        takes(x, "free", x.hold(0, false));
        takes(x, "1 is no calm", x.wind(1, 4, 1));
        gives(x, "pass", x.pass(1), 6);
        point(x, "the others turn", 1, 1, 2);
        gives(x, "the right one was not turned", x.vane(2, 4), 0);
    }

    private static void shorterWay() {
        edge(22, "Else it would TURN by a tooth the shorter way to what it WANTS (of two alike to the right).");
        for (int teeth = 4; teeth <= 9; teeth++) {
            for (int from = 0; from < teeth; from++) {
                VaneTown x = Check.town("place p;vane a teeth " + teeth + " at p points " + from + ";");
                takes(x, "wind", x.wind(0, 8, 1));
                int right = Math.floorMod(x.wants(0) - from, teeth);
                int step = right == 0 ? 0 : right <= teeth - right ? 1 : -1;
                gives(x, "pass", x.pass(1), 1);
                point(x, "of " + teeth + " teeth from " + from, Math.floorMod(from + step, teeth));
            }
        }
        VaneTown y = Check.town("place p;vane a teeth 60 at p;vane b teeth 60 at p points 59;vane c teeth 60 at p points 1;");
        takes(y, "from the south: 30", y.wind(0, 8, 1));
        gives(y, "pass", y.pass(1), 1);
        point(y, "30 either way; 29 to the left; 29 to the right", 1, 58, 2);
    }

    private static void forAndAgainst() {
        edge(22, "It does, if it is not BLOCKED and what is for it is more than what is against.");
        VaneTown x = Check.town("place p;vane a teeth 8 at p stiff 98;");
        takes(x, "as much", x.wind(0, 4, 98));
        gives(x, "pass", x.pass(1), 1);
        point(x, "as much is not more", 0);
        takes(x, "one more", x.wind(0, 4, 99));
        gives(x, "pass", x.pass(1), 2);
        point(x, "more", 1);
        x = Check.town("place p;vane a teeth 8 at p stiff 99;");
        takes(x, "all there can be", x.wind(0, 4, 99));
        gives(x, "pass", x.pass(99), 99);
        point(x, "is not enough", 0);
        x = Check.town("place p;vane a teeth 8 at p;");
        takes(x, "1 against 0", x.wind(0, 4, 1));
        gives(x, "pass", x.pass(1), 1);
        point(x, "is enough", 1);
        x = Check.town(PAIR + "gear g of a b;belt h of a b;");
        takes(x, "wind", x.wind(0, 4, 99));
        gives(x, "pass", x.pass(9), 9);
        point(x, "blocked", 0, 0);
        x = Check.town(PAIR + "belt h of a b slack 1;");
        takes(x, "hold", x.hold(1, true));
        takes(x, "wind", x.wind(0, 4, 99));
        gives(x, "pass", x.pass(9), 9);
        point(x, "blocked by the held one behind one tooth", 1, 0);
    }

    /** a is taken to the right by a wind for it; b hangs on a by a belt. Does a turn? */
    private static void pulls(String when, String b, int strong, int direction, int ofB, boolean does) {
        VaneTown x = Check.town("place p;place q;vane a teeth 8 at p stiff 3;vane b " + b + ";belt h of a b;");
        takes(x, "wind", x.wind(0, 4, strong));
        takes(x, "wind", x.wind(1, direction, ofB));
        if (does) {
            gives(x, when + ": " + strong, x.firstToTurn(), 0);
        } else {
            due(when + ": " + strong + " is not enough", x.firstToTurn() == 0 ? 1 : 0, 0);
        }
    }

    private static void draggedOnesForAndAgainst() {
        edge(22, "For it: how STRONG its wind is, and that of each other one DRAGGED along that comes nearer to what it WANTS so (not at calm);");
        pulls("alone 3", "teeth 8 at q", 3, 0, 0, false);
        pulls("alone 3", "teeth 8 at q", 4, 0, 0, true);
        pulls("b helps with 2", "teeth 8 at q", 1, 4, 2, false);
        pulls("b helps with 2", "teeth 8 at q", 2, 4, 2, true);
        pulls("b at calm helps not", "teeth 8 at q", 3, 4, 0, false);
        pulls("b half round, 4 of 8, comes nearer", "teeth 8 at q points 4", 1, 0, 3, true);
        pulls("b half round, 4 of 8, comes nearer", "teeth 8 at q points 4", 1, 0, 2, false);
        pulls("b over north", "teeth 8 at q points 7", 1, 0, 3, true);
        edge(22, "against it: how STIFF all that turn are, and the winds of DRAGGED ones that come farther from it.");
        pulls("b stiff by 5", "teeth 8 at q stiff 5", 8, 0, 0, false);
        pulls("b stiff by 5", "teeth 8 at q stiff 5", 9, 0, 0, true);
        pulls("b is right: 2 against", "teeth 8 at q", 5, 0, 2, false);
        pulls("b is right: 2 against", "teeth 8 at q", 6, 0, 2, true);
        pulls("b goes over north from where it wants to", "teeth 8 at q points 7", 5, 12, 2, false);
        pulls("b goes over north from where it wants to", "teeth 8 at q points 7", 6, 12, 2, true);
        pulls("b at calm is not against", "teeth 8 at q points 7", 4, 12, 0, true);
        pulls("stiff and against", "teeth 8 at q stiff 4", 9, 0, 2, false);
        pulls("stiff and against", "teeth 8 at q stiff 4", 10, 0, 2, true);
        edge(22, "(How far a VANE is from a tooth: the fewer teeth of both ways round.)");
        pulls("2 of 5 and 3 of 5 are as far from 0", "teeth 5 at q points 2", 4, 0, 99, true);
        pulls("2 of 5 and 3 of 5 are as far from 0", "teeth 5 at q points 2", 3, 0, 99, false);
        pulls("3 of 5 comes nearer over 4", "teeth 5 at q points 3", 1, 0, 3, true);
        pulls("1 of 5 goes farther to 2", "teeth 5 at q points 1", 5, 0, 2, false);
        VaneTown x = Check.town("place p;place q;vane a teeth 8 at p stiff 1;vane b teeth 8 at q stiff 2;vane c teeth 8 at q stiff 3;"
                + "belt h of a b;belt i of b c;");
        takes(x, "all three are stiff", x.wind(0, 4, 6));
        refuses(x, "6 against 6", x.firstToTurn(), 6);
        takes(x, "all three are stiff", x.wind(0, 4, 7));
        gives(x, "7 against 6", x.firstToTurn(), 0);
    }

    private static void bells() {
        edge(14, "A VANE that comes to tooth 0 by a turn STRIKES its bell.");
        VaneTown x = Check.town("place p;vane a teeth 4 at p;vane b teeth 4 at p points 1;vane c teeth 4 at p points 3;belt h of b a;");
        gives(x, "at 0 at first: no bell", x.vane(0, 5), 0);
        gives(x, "from 3 to the right", x.turn(2, 1), 1);
        gives(x, "struck", x.vane(2, 5), 1);
        gives(x, "away from 0", x.turn(2, 1), 1);
        gives(x, "not struck", x.vane(2, 5), 1);
        gives(x, "back to 0", x.turn(2, -1), 1);
        gives(x, "struck", x.vane(2, 5), 2);
        gives(x, "a to 1, b to 2", x.turn(0, 1), 1);
        gives(x, "a to 3, b to 0 by being dragged", x.turn(0, 2), 2);
        gives(x, "b struck", x.vane(1, 5), 1);
        gives(x, "a not", x.vane(0, 5), 0);
        takes(x, "wind", x.wind(0, 0, 1));
        gives(x, "pass", x.pass(1), 1);
        gives(x, "a to 0 by the wind, or b at 0 against it as much", x.vane(0, 5), 0);
        takes(x, "lift", x.lift(0, true));
        gives(x, "pass", x.pass(1), 2);
        gives(x, "a to 0 by the wind", x.vane(0, 5), 1);
        gives(x, "pass", x.pass(9), 11);
        gives(x, "it stays there: no bell more", x.vane(0, 5), 1);
        gives(x, "round and round", x.turn(2, 12), 12);
        gives(x, "struck three times more", x.vane(2, 5), 5);
    }

    private static void pass() {
        edge(22, "So many QUARTERS (1 to 99) go by: which one it is (1; 4: above 9,999).");
        VaneTown x = Check.town("place p;vane a teeth 60 at p;");
        bounds(x, "pass", n -> x.pass(n), 1, 99);
        gives(x, "1 and 99", x.told(3), 100);
        edge(22, "Then the QUARTER is one more (9,999 at most).");
        for (int i = 2; i <= 100; i++) {
            gives(x, "pass", x.pass(99), 1 + 99 * i);
        }
        gives(x, "9,901 and 97", x.pass(97), 9998);
        takes(x, "wind", x.wind(0, 8, 1));
        refuses(x, "10,000", x.pass(2), 4);
        refuses(x, "10,097", x.pass(99), 4);
        refuses(x, "1 ahead of 4", x.pass(100), 1);
        refuses(x, "1 ahead of 4", x.pass(0), 1);
        gives(x, "no QUARTER went by", x.told(3), 9998);
        point(x, "none turned", 0);
        gives(x, "the last", x.pass(1), 9999);
        point(x, "it turned", 1);
        refuses(x, "one more", x.pass(1), 4);
        point(x, "none turned", 1);
        gives(x, "AHEAD there are more", x.points(0, 400), 30);
        Check.ordersTaken(x, "wait 5;", 1);
        gives(x, "ORDERS may wait on", x.run(0), 1);
        gives(x, "they turn", x.ranTo(0), 6);
    }

    private static void byHand() {
        edge(23, "By hand: a VANE is turned so many TEETH (either way), tooth by tooth, until it is BLOCKED "
                + "(STIFF ones and winds don't matter; bells strike, too).");
        VaneTown x = Check.town("place p;vane a teeth 8 at p stiff 99;vane b teeth 8 at p stiff 99;belt h of a b slack 2;");
        takes(x, "wind", x.wind(0, 12, 99));
        gives(x, "against stiff ones and winds", x.turn(0, 9), 9);
        point(x, "9 and 7 teeth", 1, 7);
        gives(x, "a bell", x.vane(0, 5), 1);
        takes(x, "hold", x.hold(1, true));
        gives(x, "blocked at once", x.turn(0, 1), 0);
        gives(x, "the other way until it is", x.turn(0, -3), 2);
        point(x, "2 back", 7, 7);
        gives(x, "and no more", x.turn(0, -1), 0);
        gives(x, "a tooth of 9 before it is", x.turn(0, 9), 2);
        gives(x, "teeth turned", x.vane(0, 4), 13);
        gives(x, "no QUARTER goes by", x.told(3), 0);
    }

    private static void turn() {
        edge(23, "By hand, so many teeth (-99 to 99, not 0): how many it was turned (1).");
        VaneTown x = Check.town(PAIR);
        bounds(x, "teeth", n -> x.turn(0, n), -99, 99);
        gives(x, "99 each way", x.vane(0, 4), 198);
        refuses(x, "0 teeth", x.turn(0, 0), 1);
        bounds(x, "vane", n -> x.turn(n, 1), 0, 1);
        gives(x, "1", x.turn(0, 1), 1);
        gives(x, "-1: how many, either way", x.turn(0, -1), 1);
        takes(x, "hold", x.hold(0, true));
        gives(x, "held: none", x.turn(0, -99), 0);
        gives(x, "held: none", x.turn(0, 99), 0);
        refuses(x, "0 teeth of a held one", x.turn(0, 0), 1);
    }
}
