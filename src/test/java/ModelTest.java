import java.util.Random;

/** All promises: random runs of calls, each answered as the plain model answers it. */
public final class ModelTest {
    private static final int RUNS = 6000;
    /** An object is promised to answer so many calls, of which the last ones look at all that can be seen. */
    private static final int MOST_CALLS = 512;
    private static final int CALLS_TO_SEE_ALL = 104;
    /** What one kind of call below may come to, with the texts or numbers that it needs: no more than this. */
    private static final int CALLS_OF_ONE_KIND = 140;

    private final Random random;
    private final VaneTown x = new VaneTown();
    private final Model m = new Model();
    private final int run;
    private int places;
    private int vanes;
    private int shafts;
    private int asked;

    private ModelTest(int run) {
        this.run = run;
        random = new Random(run);
    }

    public static void main(String[] args) {
        int runs = args.length > 0 ? Integer.parseInt(args[0]) : RUNS;
        int from = args.length > 1 ? Integer.parseInt(args[1]) : 0;
        for (int run = from; run < from + runs; run++) {
            new ModelTest(run).calls();
        }
        Check.end("ModelTest");
    }

    private int up(int most) {
        return random.nextInt(most + 1);
    }

    /** Mostly a number that can be, now and then one just outside or far off. */
    private int num(int least, int most) {
        int kind = up(40);
        if (kind == 0) {
            return least - 1;
        }
        if (kind == 1) {
            return most + 1;
        }
        if (kind == 2) {
            return random.nextBoolean() ? Integer.MAX_VALUE : Integer.MIN_VALUE;
        }
        return least + random.nextInt(Math.max(1, most - least + 1));
    }

    private int vane() {
        return num(0, vanes - 1);
    }

    private int shaft() {
        return num(0, shafts - 1);
    }

    private int ahead() {
        return up(3) == 0 ? num(0, 400) : num(0, 12);
    }

    private int span() {
        return up(3) == 0 ? num(1, 400) : num(1, 12);
    }

    private void same(String call, long got, long want) {
        asked += 2;
        Check.due("run " + run + ": " + call, got, want);
        Check.due("run " + run + ": " + call + ", status()", x.status(), m.status);
    }

    private void sameFraction() {
        asked += 2;
        Check.due("run " + run + ": top()", x.top(), m.top);
        Check.due("run " + run + ": bottom()", x.bottom(), m.bottom);
    }

    private static int b(boolean is) {
        return is ? 1 : 0;
    }

    private void calls() {
        readVillage(villageText());
        while (asked <= MOST_CALLS - CALLS_TO_SEE_ALL - CALLS_OF_ONE_KIND) {
            call(up(69));
            sameFraction();
        }
        allVisible();
    }

    private void allVisible() {
        String when = "run " + run + ": at its end, ";
        for (int what = 0; what <= 5; what++) {
            Check.due(when + "told", x.told(what), m.told(what));
        }
        for (int v = 0; v < 8; v++) {
            for (int what = 0; what <= 5; what++) {
                Check.due(when + "vane", x.vane(v, what), m.vane(v, what));
            }
        }
        for (int s = 0; s < 10; s++) {
            for (int what = 0; what <= 4; what++) {
                Check.due(when + "shaft", x.shaft(s, what), m.shaft(s, what));
            }
        }
    }

    private void feed(String text) {
        for (int i = 0; i < text.length(); i += 20) {
            int[] n = new int[5];
            for (int k = 0; k < 20; k++) {
                int c = i + k < text.length() ? text.charAt(i + k) & 255 : ' ';
                n[k / 4] = n[k / 4] << 8 | c;
            }
            same("feed", x.feed(n[0], n[1], n[2], n[3], n[4]), m.feed(n));
        }
    }

    private void readVillage(String text) {
        feed(text);
        int n = up(60) == 0 ? num(0, 900) : text.length();
        same("village of " + text, x.village(n), m.village(n));
        faults();
        places = m.now.places.size();
        vanes = m.now.vanes.size();
        shafts = m.now.shafts.size();
        if (places > 0 && up(4) != 0) {
            for (int p = 0; p < places; p++) {
                int d = up(15);
                int s = up(20);
                same("wind", b(x.wind(p, d, s)), m.wind(p, d, s));
            }
        }
    }

    private void faults() {
        same("fault(0)", x.fault(0), m.fault(0));
        same("fault(1)", x.fault(1), m.fault(1));
    }

    private String villageText() {
        StringBuilder t = new StringBuilder();
        int nPlaces = 1 + up(3);
        int nVanes = up(9) == 0 ? 0 : 1 + up(7);
        int nShafts = nVanes < 2 ? 0 : up(10);
        for (int i = 0; i < nPlaces; i++) {
            t.append("place p").append((char) ('a' + i)).append(";");
        }
        int mostTeeth = up(2) == 0 ? 60 : 12;
        int mostStiff = up(2) == 0 ? 20 : 3;
        int mostSlack = up(9);
        for (int i = 0; i < nVanes; i++) {
            int teeth = 4 + up(mostTeeth - 4);
            t.append("vane v").append((char) ('a' + i)).append(" teeth ").append(teeth);
            t.append(" at p").append((char) ('a' + up(nPlaces - 1)));
            if (up(1) == 0) {
                t.append(" stiff ").append(up(mostStiff));
            }
            if (up(1) == 0) {
                t.append(" points ").append(up(teeth - 1));
            }
            t.append(";");
        }
        for (int i = 0; i < nShafts; i++) {
            int a = up(nVanes - 1);
            int b = (a + 1 + up(nVanes - 2)) % nVanes;
            t.append(up(1) == 0 ? "gear" : "belt").append(" s").append((char) ('a' + i));
            t.append(" of v").append((char) ('a' + a)).append(" v").append((char) ('a' + b));
            if (up(2) != 0) {
                t.append(" slack ").append(up(mostSlack));
            }
            t.append(";");
        }
        return t.length() > 900 ? t.substring(0, 900) : t.toString();
    }

    /** A text with a fault: something changed, left out or put in. */
    private String spoilt(String text) {
        StringBuilder t = new StringBuilder(text);
        String[] words = {"place", "vane", "teeth", "at", "stiff", "points", "gear", "belt", "of", "slack", "wind",
            "wait", "lift", "lower", "hold", "free", "turn", "gust", "when", "right", "loop", "end", "stop", ";", "<",
            ">", "=", "7", "99", "100", "12345", "pa", "va", "sa", "zz", "abcdefghi", ".", " ", "\n", "A", "0061"};
        int times = 1 + up(1);
        for (int i = 0; i < times; i++) {
            int at = up(t.length());
            switch (up(3)) {
                case 0:
                    t.insert(at, words[up(words.length - 1)]);
                    break;
                case 1:
                    t.insert(at, " " + words[up(words.length - 1)] + " ");
                    break;
                case 2:
                    t.delete(at, Math.min(t.length(), at + 1 + up(6)));
                    break;
                default:
                    if (at < t.length()) {
                        t.setCharAt(at, (char) (up(9) == 0 ? up(255) : "abcps019;<>= \n".charAt(up(13))));
                    }
                    break;
            }
        }
        return t.toString();
    }

    private String ordersText() {
        StringBuilder t = new StringBuilder();
        steps(t, 0, up(6));
        return t.toString();
    }

    private String aVane() {
        return "v" + (char) ('a' + up(Math.max(0, vanes - 1)));
    }

    private void steps(StringBuilder t, int depth, int many) {
        for (int i = 0; i < many && t.length() < 240; i++) {
            switch (up(12)) {
                case 0:
                case 1:
                    t.append("wind p").append((char) ('a' + up(Math.max(0, places - 1)))).append(" ").append(up(15))
                            .append(" ").append(up(20));
                    break;
                case 2:
                    t.append("gust ").append(up(20));
                    break;
                case 3:
                case 4:
                    t.append("wait ").append(1 + up(9));
                    break;
                case 5:
                    t.append(up(1) == 0 ? "lift s" : "lower s").append((char) ('a' + up(Math.max(0, shafts - 1))));
                    break;
                case 6:
                    t.append(up(1) == 0 ? "hold " : "free ").append(aVane());
                    break;
                case 7:
                    t.append("turn ").append(aVane()).append(" ").append(1 + up(20));
                    break;
                case 8:
                    t.append(up(5) == 0 ? "stop" : "wait 1");
                    break;
                default:
                    if (up(1) == 0) {
                        t.append("loop ").append(up(3) == 0 ? 99 : 1 + up(5));
                    } else if (up(1) == 0) {
                        t.append("when right ").append(aVane());
                    } else {
                        t.append("when points ").append(aVane()).append("<>=".charAt(up(2))).append(up(12));
                    }
                    t.append(";");
                    if (depth < 3) {
                        steps(t, depth + 1, up(3));
                    }
                    t.append("end");
                    break;
            }
            t.append(up(5) == 0 ? " ;\n" : ";");
        }
    }

    private void readOrders(String text) {
        feed(text);
        int n = up(60) == 0 ? num(0, 300) : text.length();
        same("orders of " + text, x.orders(n), m.orders(n));
        faults();
    }

    private void call(int which) {
        if (which < 20) {
            done(which);
        } else if (which < 30) {
            joins(which);
        } else if (which < 50) {
            ahead(which);
        } else {
            rest(which);
        }
    }

    private void done(int which) {
        int a = up(1) == 0 ? vane() : num(0, 7);
        int k = num(0, 5);
        switch (which) {
            case 0:
                same("told", x.told(k), m.told(k));
                break;
            case 1:
                same("vane", x.vane(a, k), m.vane(a, k));
                break;
            case 2:
                a = shaft();
                same("shaft", x.shaft(a, k), m.shaft(a, k));
                break;
            case 3:
                same("wants", x.wants(a), m.wants(a));
                break;
            case 4:
                same("right", x.right(a), m.right(a));
                break;
            case 5:
            case 6:
            case 7:
            case 8:
                int p = num(0, places - 1);
                int d = num(0, 15);
                int s = up(3) == 0 ? num(0, 99) : num(0, 20);
                same("wind", b(x.wind(p, d, s)), m.wind(p, d, s));
                same("windAt", x.windAt(p, k), m.windAt(p, k));
                break;
            case 9:
            case 10:
                boolean is = up(2) == 0;
                a = shaft();
                same("lift", b(x.lift(a, is)), m.lift(a, is));
                break;
            case 11:
                is = up(3) == 0;
                same("hold", b(x.hold(a, is)), m.hold(a, is));
                break;
            case 12:
            case 13:
                int q = up(3) == 0 ? num(1, 99) : num(1, 4);
                same("pass " + q, x.pass(q), m.pass(q));
                break;
            case 14:
            case 15:
                int t = up(3) == 0 ? num(-99, 99) : num(-4, 4);
                same("turn", x.turn(a, t), m.turn(a, t));
                break;
            default:
                t = up(20) == 0 ? num(-2, 2) : up(1) * 2 - 1;
                same("drags", x.drags(a, t), m.drags(a, t));
                break;
        }
    }

    private void joins(int which) {
        int a = vane();
        int c = vane();
        switch (which) {
            case 20:
            case 21:
                same("joined", x.joined(a), m.joined(a));
                break;
            case 22:
            case 23:
                same("ratio", b(x.ratio(a, c)), m.ratio(a, c));
                break;
            case 24:
            case 25:
                same("locked", x.locked(), m.locked());
                break;
            case 26:
                int set = num(0, (1 << vanes) - 1);
                same("common", x.common(set), m.common(set));
                break;
            case 27:
            case 28:
                same("sway", x.sway(a, c), m.sway(a, c));
                break;
            default:
                same("parting", x.parting(), m.parting());
                break;
        }
    }

    private void ahead(int which) {
        int a = vane();
        int h = ahead();
        int q = span();
        int k = num(0, 1);
        int strong = up(1) == 0 ? num(1, 99) : num(1, 12);
        switch (which) {
            case 30:
            case 31:
                same("points", x.points(a, h), m.points(a, h));
                break;
            case 32:
                same("rights", x.rights(h), m.rights(h));
                break;
            case 33:
                same("again", x.again(k), m.again(k));
                break;
            case 34:
                same("strikes", x.strikes(a, q), m.strikes(a, q));
                break;
            case 35:
            case 36:
                k = num(0, 4);
                same("bell", x.bell(k, q), m.bell(k, q));
                break;
            case 37:
                same("wrong", x.wrong(a, q), m.wrong(a, q));
                break;
            case 38:
                q = up(5) == 0 ? q : num(1, 9);
                same("holding", x.holding(a, q), m.holding(a, q));
                break;
            case 39:
            case 40:
                same("helpers", x.helpers(a), m.helpers(a));
                break;
            case 41:
                same("firstToTurn", x.firstToTurn(), m.firstToTurn());
                break;
            case 42:
                same("heaviest", x.heaviest(), m.heaviest());
                break;
            case 43:
                same("farthest", x.farthest(), m.farthest());
                break;
            case 44:
                same("calmed", x.calmed(), m.calmed());
                break;
            case 45:
                same("teeth", x.teeth(q), m.teeth(q));
                break;
            case 46:
                h = up(9) == 0 ? h : num(0, 12);
                same("bestWind", x.bestWind(strong, h), m.bestWind(strong, h));
                break;
            case 47:
                h = up(9) == 0 ? h : num(0, 12);
                same("mending", x.mending(h), m.mending(h));
                break;
            case 48:
                same("leaving", x.leaving(strong), m.leaving(strong));
                break;
            default:
                same("knowing", x.knowing(strong), m.knowing(strong));
                break;
        }
    }

    private void rest(int which) {
        int a = vane();
        int seed = num(0, 9999);
        switch (which) {
            case 50:
            case 51:
                trays();
                break;
            case 52:
            case 53:
                seen();
                break;
            case 54:
            case 55:
                readOrders(ordersText());
                break;
            case 56:
            case 57:
                readOrders(spoilt(ordersText()));
                break;
            case 58:
            case 59:
            case 60:
                same("run", x.run(seed), m.run(seed));
                break;
            case 61:
                int k = num(0, 4);
                same("ran", x.ran(k), m.ran(k));
                break;
            case 62:
                k = num(0, 7);
                same("ranTo", x.ranTo(k), m.ranTo(k));
                break;
            case 63:
            case 64:
                int many = up(3) == 0 ? num(1, 20) : num(1, 4);
                same("odds", b(x.odds(a, seed, many)), m.odds(a, seed, many));
                break;
            case 65:
                same("mark", x.mark(), m.mark());
                break;
            case 66:
                same("back", x.back(), m.back());
                places = m.now.places.size();
                vanes = m.now.vanes.size();
                shafts = m.now.shafts.size();
                break;
            case 67:
                readVillage(spoilt(villageText()));
                break;
            case 68:
                if (up(5) == 0) {
                    readVillage(villageText());
                }
                break;
            default:
                faults();
                break;
        }
    }

    private void trays() {
        int t = num(0, 3);
        int u = num(0, 3);
        int p = num(0, 6);
        int q = num(0, 6);
        int many = num(0, 6);
        int sort = num(0, 3);
        int size = up(3) == 0 ? num(0, 60) : num(0, 8);
        long v = random.nextLong() >> up(63);
        switch (up(4)) {
            case 0:
                same("tray", b(x.tray(t, sort, size)), m.tray(t, sort, size));
                break;
            case 1:
                same("write", b(x.write(t, p, v)), m.write(t, p, v));
                break;
            case 2:
                same("pour", b(x.pour(t, p, u, q, many)), m.pour(t, p, u, q, many));
                break;
            default:
                same("read", x.read(t, p), m.read(t, p));
                break;
        }
    }

    /** What comes, or would come with one shaft lifted, now and then with something else in it. */
    private void seen() {
        int rows = up(20) == 0 ? num(1, 15) : 1 + up(3);
        Model.World w = m.now.copy();
        if (shafts > 0 && up(1) == 0) {
            w = w.lifted(up(shafts - 1));
        }
        int sort = up(3);
        int size = Math.min(60, Math.max(0, rows) * vanes + up(1));
        if (up(15) != 0) {
            same("tray", b(x.tray(0, sort, size)), m.tray(0, sort, size));
            for (int i = 0; i < size && vanes > 0; i++) {
                int v = w.ahead(i / vanes + 1).vanes.get(i % vanes).points + (up(60) == 0 ? up(6) - 3 : 0);
                same("write", b(x.write(0, i, v)), m.write(0, i, v));
            }
        }
        int tray = up(20) == 0 ? num(0, 3) : 0;
        same("whole", x.whole(tray, rows), m.whole(tray, rows));
        same("broken", x.broken(tray, rows), m.broken(tray, rows));
    }
}
