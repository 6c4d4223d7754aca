/** Promises 1 to 8: a new object, status, the fraction, trays. */
public final class TraysTest {
    public static void main(String[] args) {
        newObject();
        trayIsLaid();
        numbersAreCut();
        placesAreAsked();
        poured();
        pourAsksInOrder();
        statusStays();
        Check.end("TraysTest");
    }

    private static void newObject() {
        VaneTown x = new VaneTown();
        Check.due("status()", x.status(), 0);
        Check.due("top()", x.top(), 0);
        Check.due("bottom()", x.bottom(), 1);
        Check.due("fault(0)", x.fault(0), -1);
        Check.due("fault(1)", x.fault(1), -1);
        for (int what = 0; what <= 5; what++) {
            Check.gives(x, "told of a new object", x.told(what), 0);
        }
        for (int tray = 0; tray < 4; tray++) {
            Check.refuses(x, "read of a missing tray", x.read(tray, 0), 2);
        }
        Check.refuses(x, "vane of a new object", x.vane(0, 0), 1);
        Check.refuses(x, "shaft of a new object", x.shaft(0, 0), 1);
        Check.refuses(x, "windAt of a new object", x.windAt(0, 0), 1);
        Check.refuses(x, "run of a new object", x.run(0), 6);
        Check.refuses(x, "ran of a new object", x.ran(0), 6);
        Check.refuses(x, "back of a new object", x.back(), 6);
        Check.due("an empty tape", x.feed(0, 0, 0, 0, 0), 20);
    }

    private static void trayIsLaid() {
        VaneTown x = new VaneTown();
        Check.refuses(x, "tray(-1)", x.tray(-1, 0, 1), 1);
        Check.refuses(x, "tray(4)", x.tray(4, 0, 1), 1);
        Check.refuses(x, "sort -1", x.tray(0, -1, 1), 1);
        Check.refuses(x, "sort 4", x.tray(0, 4, 1), 1);
        Check.refuses(x, "many -1", x.tray(0, 0, -1), 1);
        Check.refuses(x, "many 61", x.tray(0, 0, 61), 1);
        Check.refuses(x, "still missing", x.read(0, 0), 2);
        Check.takes(x, "many 0", x.tray(0, 0, 0));
        Check.refuses(x, "a tray of none", x.read(0, 0), 3);
        Check.takes(x, "many 60", x.tray(3, 3, 60));
        Check.gives(x, "the last", x.read(3, 59), 0);
        Check.refuses(x, "behind the last", x.read(3, 60), 3);
        Check.takes(x, "write", x.write(3, 59, 7));
        Check.takes(x, "write", x.write(3, 0, 7));
        Check.refuses(x, "a tray that can't be", x.tray(3, 3, 61), 1);
        Check.gives(x, "it stays", x.read(3, 59), 7);
        Check.takes(x, "laid again", x.tray(3, 0, 60));
        Check.gives(x, "all 0 again", x.read(3, 59), 0);
        Check.gives(x, "all 0 again", x.read(3, 0), 0);
    }

    private static void numbersAreCut() {
        VaneTown x = new VaneTown();
        cut(x, 0, 127, 127);
        cut(x, 0, 128, -128);
        cut(x, 0, 255, -1);
        cut(x, 0, -129, 127);
        cut(x, 0, 256, 0);
        cut(x, 1, 32767, 32767);
        cut(x, 1, 32768, -32768);
        cut(x, 1, 65535, -1);
        cut(x, 2, Integer.MAX_VALUE, Integer.MAX_VALUE);
        cut(x, 2, 1L << 31, Integer.MIN_VALUE);
        cut(x, 2, 1L << 32, 0);
        cut(x, 3, Long.MIN_VALUE, Long.MIN_VALUE);
        cut(x, 3, Long.MAX_VALUE, Long.MAX_VALUE);
        cut(x, 3, -1, -1);
    }

    private static void cut(VaneTown x, int sort, long v, long want) {
        x.tray(1, sort, 2);
        Check.takes(x, "write " + v, x.write(1, 1, v));
        Check.gives(x, v + " cut to sort " + sort, x.read(1, 1), want);
        Check.gives(x, "its neighbour", x.read(1, 0), 0);
    }

    private static void placesAreAsked() {
        VaneTown x = new VaneTown();
        Check.refuses(x, "write to a tray that is missing", x.write(0, -1, 1), 2);
        Check.refuses(x, "write to no tray", x.write(4, 0, 1), 1);
        Check.refuses(x, "write to no tray", x.write(-1, 0, 1), 1);
        Check.refuses(x, "read of no tray", x.read(4, 0), 1);
        Check.refuses(x, "read of no tray", x.read(-1, 0), 1);
        x.tray(0, 1, 3);
        Check.refuses(x, "write below", x.write(0, -1, 1), 3);
        Check.refuses(x, "write behind", x.write(0, 3, 1), 3);
        Check.refuses(x, "read below", x.read(0, -1), 3);
        Check.refuses(x, "read behind", x.read(0, 3), 3);
        Check.refuses(x, "read far", x.read(0, Integer.MAX_VALUE), 3);
        Check.refuses(x, "read far", x.read(0, Integer.MIN_VALUE), 3);
    }

    private static void fill(VaneTown x, int tray, int sort, int many, int from) {
        x.tray(tray, sort, many);
        for (int i = 0; i < many; i++) {
            x.write(tray, i, from + i);
        }
    }

    private static void holds(VaneTown x, String what, int tray, int... numbers) {
        for (int i = 0; i < numbers.length; i++) {
            Check.gives(x, what + ", place " + i, x.read(tray, i), numbers[i]);
        }
        Check.refuses(x, what + ", its end", x.read(tray, numbers.length), 3);
    }

    private static void poured() {
        VaneTown x = new VaneTown();
        fill(x, 0, 2, 5, 10);
        fill(x, 1, 2, 4, 20);
        Check.takes(x, "pour", x.pour(0, 1, 1, 2, 2));
        holds(x, "poured to", 1, 20, 21, 11, 12);
        holds(x, "poured from", 0, 10, 11, 12, 13, 14);
        Check.takes(x, "pour on", x.pour(0, 0, 0, 1, 4));
        holds(x, "poured on", 0, 10, 10, 11, 12, 13);
        Check.takes(x, "pour back", x.pour(0, 2, 0, 0, 3));
        holds(x, "poured back", 0, 11, 12, 13, 12, 13);
        Check.takes(x, "pour nothing at the ends", x.pour(0, 5, 1, 4, 0));
        holds(x, "nothing poured", 1, 20, 21, 11, 12);
    }

    private static void pourAsksInOrder() {
        VaneTown x = new VaneTown();
        Check.refuses(x, "no tray", x.pour(-1, 0, 0, 0, 0), 1);
        Check.refuses(x, "no tray", x.pour(0, 0, 4, 0, 0), 1);
        Check.refuses(x, "below 0 ahead of missing", x.pour(0, -1, 1, 0, 0), 1);
        Check.refuses(x, "below 0 ahead of missing", x.pour(0, 0, 1, -1, 0), 1);
        Check.refuses(x, "below 0 ahead of missing", x.pour(0, 0, 1, 0, -1), 1);
        x.tray(0, 0, 3);
        Check.refuses(x, "to a missing one", x.pour(0, 0, 1, 0, 9), 2);
        Check.refuses(x, "from a missing one", x.pour(1, 0, 0, 0, 9), 2);
        x.tray(1, 1, 3);
        Check.refuses(x, "unlike ahead of too few", x.pour(0, 0, 1, 0, 9), 8);
        Check.refuses(x, "unlike", x.pour(0, 0, 1, 0, 0), 8);
        x.tray(1, 0, 2);
        Check.refuses(x, "too few to pour to", x.pour(0, 0, 1, 0, 3), 3);
        Check.refuses(x, "too few to pour from", x.pour(1, 0, 0, 0, 3), 3);
        Check.refuses(x, "a place too far", x.pour(0, 4, 1, 0, 0), 3);
        Check.refuses(x, "a place too far", x.pour(0, 0, 1, 3, 0), 3);
        Check.refuses(x, "far", x.pour(0, Integer.MAX_VALUE, 1, 0, 1), 3);
        Check.refuses(x, "far", x.pour(0, 1, 1, 1, Integer.MAX_VALUE), 3);
        Check.takes(x, "all", x.pour(1, 0, 0, 1, 2));
    }

    private static void statusStays() {
        VaneTown x = new VaneTown();
        x.read(0, 0);
        Check.due("status() again", x.status(), 2);
        x.top();
        x.bottom();
        x.fault(0);
        x.fault(9);
        x.feed(1, 2, 3, 4, 5);
        Check.due("status() behind calls that have none", x.status(), 2);
    }
}
