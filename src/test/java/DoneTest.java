/** Promises 18 to 24: winds, clutches, held vanes, quarters that go by, turning by hand. */
public final class DoneTest {
    private static final String ONE = "place p;vane a teeth 8 at p stiff 2;";
    private static final String PAIR = "place p;place q;vane a teeth 8 at p;vane b teeth 8 at q;";

    public static void main(String[] args) {
        windIsSet();
        liftAndHoldAreSet();
        passAsks();
        passTurns();
        shorterWay();
        windsOfDraggedOnes();
        calmAndRightOnesDoNothing();
        heldAndBlocked();
        oneVaneBehindTheOther();
        bellsStrike();
        playOfLifted();
        turnedByHand();
        dragged();
        draggedInRings();
        Check.end("DoneTest");
    }

    private static void windIsSet() {
        VaneTown x = Check.town(PAIR);
        Check.takes(x, "wind", x.wind(1, 15, 99));
        Check.gives(x, "direction", x.windAt(1, 0), 15);
        Check.gives(x, "strong", x.windAt(1, 1), 99);
        Check.gives(x, "the other direction", x.windAt(0, 0), 0);
        Check.gives(x, "the other strong", x.windAt(0, 1), 0);
        Check.refuses(x, "wind(-1)", x.wind(-1, 0, 0), 1);
        Check.refuses(x, "wind(2)", x.wind(2, 0, 0), 1);
        Check.refuses(x, "direction -1", x.wind(1, -1, 0), 1);
        Check.refuses(x, "direction 16", x.wind(1, 16, 0), 1);
        Check.refuses(x, "strong -1", x.wind(1, 0, -1), 1);
        Check.refuses(x, "strong 100", x.wind(1, 0, 100), 1);
        Check.gives(x, "it stays", x.windAt(1, 0), 15);
        Check.refuses(x, "windAt(-1)", x.windAt(-1, 0), 1);
        Check.refuses(x, "windAt(2)", x.windAt(2, 0), 1);
        Check.refuses(x, "windAt what -1", x.windAt(0, -1), 1);
        Check.refuses(x, "windAt what 2", x.windAt(0, 2), 1);
    }

    private static void liftAndHoldAreSet() {
        VaneTown x = Check.town(PAIR + "gear g of a b;belt h of a b;");
        Check.takes(x, "lift", x.lift(1, true));
        Check.takes(x, "lift again", x.lift(1, true));
        Check.gives(x, "lifted", x.told(4), 2);
        Check.takes(x, "lift another", x.lift(0, true));
        Check.gives(x, "lifted", x.told(4), 3);
        Check.takes(x, "no more", x.lift(1, false));
        Check.takes(x, "no more again", x.lift(1, false));
        Check.gives(x, "lifted", x.told(4), 1);
        Check.takes(x, "hold", x.hold(1, true));
        Check.takes(x, "hold another", x.hold(0, true));
        Check.takes(x, "free", x.hold(1, false));
        Check.gives(x, "held", x.told(5), 1);
        Check.refuses(x, "lift(-1)", x.lift(-1, true), 1);
        Check.refuses(x, "lift(2)", x.lift(2, false), 1);
        Check.refuses(x, "hold(-1)", x.hold(-1, true), 1);
        Check.refuses(x, "hold(2)", x.hold(2, false), 1);
    }

    private static void passAsks() {
        VaneTown x = Check.town(ONE);
        Check.refuses(x, "pass(0)", x.pass(0), 1);
        Check.refuses(x, "pass(-1)", x.pass(-1), 1);
        Check.refuses(x, "pass(100)", x.pass(100), 1);
        for (int i = 1; i <= 100; i++) {
            Check.gives(x, "pass(99)", x.pass(99), 99 * i);
        }
        x.wind(0, 4, 9);
        Check.gives(x, "pass(98)", x.pass(98), 9998);
        x.wind(0, 8, 9);
        Check.refuses(x, "above 9,999", x.pass(2), 4);
        Check.refuses(x, "pass(100) is 1 first", x.pass(100), 1);
        Check.gives(x, "nothing turned", x.vane(0, 3), 2);
        Check.gives(x, "the quarter stays", x.told(3), 9998);
        Check.gives(x, "the last", x.pass(1), 9999);
        Check.gives(x, "it turned", x.vane(0, 3), 3);
        Check.refuses(x, "none behind it", x.pass(1), 4);
    }

    private static void passTurns() {
        VaneTown x = Check.town(ONE);
        x.wind(0, 4, 2);
        Check.gives(x, "as strong as stiff", x.pass(9), 9);
        Check.gives(x, "is not more", x.vane(0, 3), 0);
        x.wind(0, 4, 3);
        x.pass(1);
        Check.gives(x, "a tooth", x.vane(0, 3), 1);
        x.pass(9);
        Check.gives(x, "until it is right", x.vane(0, 3), 2);
        Check.gives(x, "teeth turned", x.vane(0, 4), 2);
        x.wind(0, 0, 3);
        x.pass(9);
        Check.gives(x, "back", x.vane(0, 3), 0);
        Check.gives(x, "teeth turned either way", x.vane(0, 4), 4);
        x.wind(0, 4, 0);
        x.pass(9);
        Check.gives(x, "not at calm", x.vane(0, 3), 0);
    }

    private static void shorterWay() {
        VaneTown x = Check.town("place p;vane a teeth 8 at p;vane b teeth 5 at p;vane c teeth 8 at p points 7;");
        x.wind(0, 8, 1);
        x.pass(1);
        Check.gives(x, "of two alike to the right", x.vane(0, 3), 1);
        Check.gives(x, "3 to the right, 2 to the left", x.vane(1, 3), 4);
        Check.gives(x, "3 to the left", x.vane(2, 3), 6);
        x.wind(0, 2, 1);
        x.pass(1);
        Check.gives(x, "right", x.vane(0, 3), 1);
        Check.gives(x, "over north", x.vane(1, 3), 0);
        Check.gives(x, "3 to the right", x.vane(2, 3), 7);
    }

    private static void windsOfDraggedOnes() {
        VaneTown x = Check.town(PAIR + "belt h of a b;");
        x.wind(0, 4, 5);
        x.wind(1, 12, 5);
        x.pass(1);
        Check.gives(x, "as much against as for", x.vane(0, 3), 0);
        x.wind(0, 4, 6);
        x.pass(9);
        Check.gives(x, "more for", x.vane(0, 3), 2);
        Check.gives(x, "dragged along", x.vane(1, 3), 2);
        Check.gives(x, "teeth of the dragged one", x.vane(1, 4), 2);

        x = Check.town("place p;place q;vane a teeth 8 at p stiff 5;vane b teeth 8 at q stiff 2;belt h of a b;");
        x.wind(0, 4, 3);
        x.wind(1, 4, 4);
        x.pass(1);
        Check.gives(x, "7 against 7", x.vane(0, 3), 0);
        x.wind(1, 4, 5);
        x.pass(1);
        Check.gives(x, "8 against 7, one behind the other", x.vane(0, 3), 2);

        x = Check.town("place p;place q;vane a teeth 8 at p;vane b teeth 5 at q;gear g of a b;");
        x.wind(0, 4, 1);
        x.wind(1, 6, 99);
        x.hold(0, true);
        x.pass(1);
        Check.gives(x, "the held one holds", x.vane(1, 3), 0);
        x.hold(0, false);
        Check.gives(x, "what b wants", x.wants(1), 2);
        Check.gives(x, "what a drags", x.drags(0, 1), 3);
        Check.gives(x, "b, as far from it as before, is no matter for a", x.firstToTurn(), 0);
    }

    private static void calmAndRightOnesDoNothing() {
        VaneTown x = Check.town(PAIR + "belt h of a b;");
        x.wind(1, 4, 9);
        x.pass(1);
        Check.gives(x, "b by itself, not by a at calm", x.vane(1, 3), 1);
        Check.gives(x, "a dragged", x.vane(0, 3), 1);
        x = Check.town(PAIR + "gear g of a b;");
        x.wind(1, 12, 9);
        x.pass(1);
        Check.gives(x, "to the left, too", x.vane(1, 3), 7);
        x = Check.town(PAIR + "belt h of a b;");
        x.wind(0, 0, 1);
        x.wind(1, 4, 9);
        x.pass(1);
        Check.gives(x, "nor by a that is right", x.vane(1, 3), 1);
        x.hold(1, true);
        x.pass(1);
        Check.gives(x, "a can't go back", x.vane(0, 3), 1);
    }

    private static void heldAndBlocked() {
        VaneTown x = Check.town(PAIR + "gear g of a b slack 1;");
        x.wind(0, 4, 9);
        x.hold(1, true);
        x.pass(9);
        Check.gives(x, "until it would drag the held one", x.vane(0, 3), 1);
        Check.gives(x, "play", x.shaft(0, 4), 1);
        x.hold(1, false);
        x.pass(9);
        Check.gives(x, "free again", x.vane(0, 3), 2);
        Check.gives(x, "dragged contrary", x.vane(1, 3), 7);
        x.wind(0, 0, 9);
        x.hold(0, true);
        x.pass(9);
        Check.gives(x, "a held one does nothing", x.vane(0, 3), 2);
    }

    private static void oneVaneBehindTheOther() {
        VaneTown x = Check.town("place p;vane a teeth 8 at p;vane b teeth 8 at p points 4;belt h of b a slack 0;");
        x.wind(0, 4, 1);
        x.pass(1);
        // a to the right would take b farther from 2, b to the left a: 1 for, 1 against.
        Check.gives(x, "a", x.vane(0, 3), 0);
        Check.gives(x, "b", x.vane(1, 3), 4);
        x = Check.town("place p;vane a teeth 8 at p;vane b teeth 8 at p points 1;belt h of b a slack 0;");
        x.wind(0, 6, 1);
        x.pass(1);
        Check.gives(x, "a by itself and by b", x.vane(0, 3), 2);
        Check.gives(x, "b is right behind both", x.vane(1, 3), 3);
        x.pass(9);
        Check.gives(x, "a stays", x.vane(0, 3), 2);
    }

    private static void bellsStrike() {
        VaneTown x = Check.town("place p;vane a teeth 4 at p points 3;vane b teeth 5 at p points 1;gear g of a b;");
        Check.gives(x, "by hand", x.turn(0, 1), 1);
        Check.gives(x, "a struck", x.vane(0, 5), 1);
        Check.gives(x, "b struck, dragged", x.vane(1, 5), 1);
        Check.gives(x, "on", x.turn(0, 8), 8);
        Check.gives(x, "a struck", x.vane(0, 5), 3);
        Check.gives(x, "b struck", x.vane(1, 5), 2);
        Check.gives(x, "back", x.turn(0, -4), 4);
        Check.gives(x, "a struck to the left, too", x.vane(0, 5), 4);
        Check.gives(x, "teeth", x.vane(0, 4), 13);
        x = Check.town("place p;vane a teeth 8 at p points 2;");
        x.wind(0, 0, 1);
        x.pass(9);
        Check.gives(x, "struck by the wind", x.vane(0, 5), 1);
    }

    private static void playOfLifted() {
        VaneTown x = Check.town(PAIR + "gear g of a b slack 2;belt h of a b slack 3;");
        x.turn(0, 1);
        Check.gives(x, "play of the gear", x.shaft(0, 4), 1);
        Check.gives(x, "play of the belt", x.shaft(1, 4), 1);
        x.turn(1, 1);
        Check.gives(x, "of the second of a gear", x.shaft(0, 4), 2);
        Check.gives(x, "of the second of a belt", x.shaft(1, 4), 0);
        x.lift(0, true);
        Check.gives(x, "lifted", x.turn(0, 3), 3);
        Check.gives(x, "no drag yet", x.vane(1, 3), 1);
        Check.gives(x, "its play stays", x.shaft(0, 4), 2);
        Check.gives(x, "the other's doesn't", x.shaft(1, 4), 3);
        x.lift(0, false);
        Check.gives(x, "as it was", x.shaft(0, 4), 2);
        Check.refuses(x, "both at their ends", x.drags(0, 1), 7);
        Check.gives(x, "back is free", x.drags(0, -1), 1);
    }

    private static void turnedByHand() {
        VaneTown x = Check.town(PAIR + "belt h of a b slack 9;");
        Check.refuses(x, "turn(-1)", x.turn(-1, 1), 1);
        Check.refuses(x, "turn(2)", x.turn(2, 1), 1);
        Check.refuses(x, "no teeth", x.turn(0, 0), 1);
        Check.refuses(x, "100 teeth", x.turn(0, 100), 1);
        Check.refuses(x, "-100 teeth", x.turn(0, -100), 1);
        Check.refuses(x, "least int", x.turn(0, Integer.MIN_VALUE), 1);
        Check.gives(x, "99 teeth", x.turn(0, 99), 99);
        Check.gives(x, "99 by 8", x.vane(0, 3), 3);
        Check.gives(x, "90 by 8", x.vane(1, 3), 2);
        Check.gives(x, "90 teeth", x.vane(1, 4), 90);
        Check.gives(x, "-99 teeth", x.turn(0, -99), 99);
        Check.gives(x, "0 again", x.vane(0, 3), 0);
        Check.gives(x, "dragged back by 90", x.vane(1, 3), 0);
        x.hold(1, true);
        Check.gives(x, "until it is blocked", x.turn(0, 50), 9);
        Check.gives(x, "blocked at once", x.turn(0, 1), 0);
        Check.gives(x, "a held one", x.turn(1, 1), 0);
        Check.gives(x, "the quarter stays", x.told(3), 0);
    }

    private static void dragged() {
        VaneTown x = Check.town("place p;vane a teeth 8 at p;vane b teeth 8 at p;vane c teeth 8 at p;vane d teeth 8 at p;"
                + "gear g of c d;belt h of b c slack 1;gear i of a b;");
        Check.gives(x, "a right: b left, play below 0, c left, d", x.drags(0, 1), 15);
        Check.gives(x, "a left: b right, play to 1", x.drags(0, -1), 3);
        Check.gives(x, "d right: c left, play of h to 1", x.drags(3, 1), 12);
        Check.gives(x, "d left: c right, h below 0", x.drags(3, -1), 15);
        x.hold(3, true);
        Check.refuses(x, "held at the end", x.drags(0, 1), 7);
        Check.refuses(x, "held itself", x.drags(3, 1), 7);
        x.lift(0, true);
        Check.gives(x, "lifted ahead of it", x.drags(0, 1), 7);
        Check.refuses(x, "drags(-1)", x.drags(-1, 1), 1);
        Check.refuses(x, "drags(4)", x.drags(4, 1), 1);
        Check.refuses(x, "tooth 0", x.drags(0, 0), 1);
        Check.refuses(x, "tooth 2", x.drags(0, 2), 1);
        Check.gives(x, "nothing was turned", x.vane(0, 4), 0);
    }

    private static void draggedInRings() {
        String three = "place p;vane a teeth 8 at p;vane b teeth 9 at p;vane c teeth 7 at p;";
        VaneTown x = Check.town(three + "gear g of a b;gear h of b c;gear i of c a;");
        Check.refuses(x, "three gears", x.drags(0, 1), 7);
        Check.gives(x, "can't be turned", x.turn(0, 3), 0);
        x = Check.town(three + "gear g of a b;gear h of b c;belt i of c a;");
        Check.gives(x, "two gears and a belt", x.drags(1, 1), 7);
        x = Check.town(three + "gear g of a b;gear h of b c;gear i of c a slack 5;");
        Check.gives(x, "5 of slack, 2 each tooth", x.turn(0, 9), 2);
        Check.gives(x, "play", x.shaft(2, 4), 4);
        Check.refuses(x, "1 left", x.drags(0, 1), 7);
        Check.gives(x, "back", x.turn(2, -9), 2);
        x = Check.town(three + "gear g of a b slack 5;gear h of b c;gear i of c a;");
        Check.refuses(x, "below 0", x.drags(2, 1), 7);
        Check.gives(x, "5 of slack in the first", x.turn(2, -9), 2);
        Check.gives(x, "its play", x.shaft(0, 4), 4);
    }
}
