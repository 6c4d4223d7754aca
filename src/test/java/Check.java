/** What the tests share: answers that are due are compared, and texts are fed to the tape. */
final class Check {
    private static int wrong = 0;
    private static int asked = 0;
    private static String why = "";

    private Check() {
    }

    /** Why the answers from here on are asked for; it is printed with each that is not as due. */
    static void because(String reason) {
        why = reason;
    }

    static void due(String call, long got, long want) {
        asked++;
        if (got != want) {
            wrong++;
            System.out.println(why + call + " answered " + got + ", due is " + want);
        }
    }

    static void due(String call, boolean got, boolean want) {
        due(call, got ? 1 : 0, want ? 1 : 0);
    }

    /** An answer that is due with STATUS 0. */
    static void gives(VaneTown x, String call, long got, long want) {
        due(call, got, want);
        due(call + ": status()", x.status(), 0);
    }

    static void takes(VaneTown x, String call, boolean got) {
        due(call, got, true);
        due(call + ": status()", x.status(), 0);
    }

    /** NONE with a STATUS. */
    static void refuses(VaneTown x, String call, long got, int status) {
        due(call, got, VaneTown.NONE);
        due(call + ": status()", x.status(), status);
    }

    static void refuses(VaneTown x, String call, boolean got, int status) {
        due(call, got, false);
        due(call + ": status()", x.status(), status);
    }

    static void feed(VaneTown x, String text) {
        for (int i = 0; i < text.length(); i += 20) {
            x.feed(four(text, i), four(text, i + 4), four(text, i + 8), four(text, i + 12), four(text, i + 16));
        }
    }

    private static int four(String text, int from) {
        int four = 0;
        for (int i = from; i < from + 4; i++) {
            four = four << 8 | (i < text.length() ? text.charAt(i) & 255 : 0);
        }
        return four;
    }

    static int village(VaneTown x, String text) {
        feed(x, text);
        return x.village(text.length());
    }

    static int orders(VaneTown x, String text) {
        feed(x, text);
        return x.orders(text.length());
    }

    /** A new object with a VILLAGE that must be taken. */
    static VaneTown town(String text) {
        VaneTown x = new VaneTown();
        int vanes = village(x, text);
        due("village of " + text + ": status()", x.status(), 0);
        due("village of " + text + ": vanes", vanes, x.told(1));
        return x;
    }

    static void ordersTaken(VaneTown x, String text, int steps) {
        gives(x, "orders of " + text, orders(x, text), steps);
    }

    static void villageFault(String text, int fault, int place) {
        VaneTown x = new VaneTown();
        refuses(x, "village of " + text, village(x, text), 9);
        due("village of " + text + ": fault(0)", x.fault(0), fault);
        due("village of " + text + ": fault(1)", x.fault(1), place);
    }

    static void ordersFault(VaneTown x, String text, int fault, int place) {
        refuses(x, "orders of " + text, orders(x, text), 9);
        due("orders of " + text + ": fault(0)", x.fault(0), fault);
        due("orders of " + text + ": fault(1)", x.fault(1), place);
    }

    static void end(String test) {
        System.out.println(test + ": " + asked + " answers, " + wrong + " of them not as due");
        if (wrong != 0) {
            System.exit(1);
        }
    }
}
