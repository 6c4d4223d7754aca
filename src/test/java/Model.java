import java.math.BigInteger;
import java.util.ArrayDeque;
import java.util.ArrayList;
import java.util.Arrays;
import java.util.HashMap;
import java.util.List;
import java.util.Map;
import java.util.TreeSet;
import java.util.regex.Matcher;
import java.util.regex.Pattern;

/**
 * The document once more, as plainly as the Java library lets it be said and in other ways than the
 * class: whole villages are copied, ways are tried out one by one, nothing is cut short.
 */
final class Model {
    static final class Vane {
        String name;
        int teeth;
        int place;
        int stiff;
        int points;
        int turned;
        int struck;
    }

    static final class Shaft {
        String name;
        int a;
        int b;
        boolean belt;
        int slack;
        int play;
        boolean lifted;
    }

    static final class Step {
        String word;
        List<String> parts = new ArrayList<>();
        List<Step> inner;
    }

    static final class Stop extends RuntimeException {
        private static final long serialVersionUID = 1;
        final int kind;
        final int at;

        Stop(int kind, int at) {
            super(null, null, false, false);
            this.kind = kind;
            this.at = at;
        }
    }

    static final class World {
        List<String> places = new ArrayList<>();
        List<Vane> vanes = new ArrayList<>();
        List<Shaft> shafts = new ArrayList<>();
        int[] from = new int[4];
        int[] strong = new int[4];
        TreeSet<Integer> held = new TreeSet<>();
        int quarter;
        List<Step> orders;
        List<Integer> bells = new ArrayList<>();
        int stepsTaken;
        int acted = -1;

        World copy() {
            World w = new World();
            w.places.addAll(places);
            for (Vane v : vanes) {
                Vane c = new Vane();
                c.name = v.name;
                c.teeth = v.teeth;
                c.place = v.place;
                c.stiff = v.stiff;
                c.points = v.points;
                c.turned = v.turned;
                c.struck = v.struck;
                w.vanes.add(c);
            }
            for (Shaft s : shafts) {
                Shaft c = new Shaft();
                c.name = s.name;
                c.a = s.a;
                c.b = s.b;
                c.belt = s.belt;
                c.slack = s.slack;
                c.play = s.play;
                c.lifted = s.lifted;
                w.shafts.add(c);
            }
            w.from = from.clone();
            w.strong = strong.clone();
            w.held.addAll(held);
            w.quarter = quarter;
            w.orders = orders;
            return w;
        }

        boolean calm(int v) {
            return strong[vanes.get(v).place] == 0;
        }

        int wants(int v) {
            Vane x = vanes.get(v);
            double exact = x.teeth * from[x.place] / 16.0;
            return (int) Math.floor(exact + 0.5) % x.teeth;
        }

        boolean right(int v) {
            return calm(v) || wants(v) == vanes.get(v).points;
        }

        int rights() {
            int set = 0;
            for (int v = 0; v < vanes.size(); v++) {
                set += right(v) ? 1 << v : 0;
            }
            return set;
        }

        static int far(int a, int b, int teeth) {
            return Math.min(Math.floorMod(a - b, teeth), Math.floorMod(b - a, teeth));
        }

        int way(int v) {
            Vane x = vanes.get(v);
            int right = Math.floorMod(wants(v) - x.points, x.teeth);
            int left = Math.floorMod(x.points - wants(v), x.teeth);
            return right <= left ? 1 : -1;
        }

        /** Which turn, and how; null if it is BLOCKED. */
        Map<Integer, Integer> drag(int v, int tooth) {
            Map<Integer, Integer> turns = new HashMap<>();
            turns.put(v, tooth);
            boolean found = true;
            while (found) {
                found = false;
                for (Shaft s : shafts) {
                    if (s.lifted || turns.containsKey(s.a) == turns.containsKey(s.b)) {
                        continue;
                    }
                    int play = s.play + change(s, turns);
                    if (play < 0 || play > s.slack) {
                        int one = turns.containsKey(s.a) ? s.a : s.b;
                        int other = one == s.a ? s.b : s.a;
                        int d = turns.get(one);
                        turns.put(other, s.belt ? d : -d);
                        found = true;
                        break;
                    }
                }
            }
            for (int t : turns.keySet()) {
                if (held.contains(t)) {
                    return null;
                }
            }
            for (Shaft s : shafts) {
                int play = s.play + change(s, turns);
                if (!s.lifted && turns.containsKey(s.a) && turns.containsKey(s.b) && (play < 0 || play > s.slack)) {
                    return null;
                }
            }
            return turns;
        }

        static int change(Shaft s, Map<Integer, Integer> turns) {
            int change = turns.getOrDefault(s.a, 0);
            int second = turns.getOrDefault(s.b, 0);
            return s.belt ? change - second : change + second;
        }

        void turn(Map<Integer, Integer> turns) {
            for (Shaft s : shafts) {
                if (!s.lifted) {
                    s.play += change(s, turns);
                }
            }
            for (int v : new TreeSet<>(turns.keySet())) {
                Vane x = vanes.get(v);
                x.points = Math.floorMod(x.points + turns.get(v), x.teeth);
                x.turned++;
                if (x.points == 0) {
                    x.struck++;
                    bells.add(v);
                }
            }
        }

        void quarter() {
            acted = -1;
            for (int v = 0; v < vanes.size(); v++) {
                if (held.contains(v) || right(v)) {
                    continue;
                }
                Map<Integer, Integer> turns = drag(v, way(v));
                if (turns == null) {
                    continue;
                }
                int good = strong[vanes.get(v).place];
                int bad = 0;
                for (Map.Entry<Integer, Integer> t : turns.entrySet()) {
                    int w = t.getKey();
                    Vane x = vanes.get(w);
                    bad += x.stiff;
                    if (w == v || calm(w)) {
                        continue;
                    }
                    int before = far(x.points, wants(w), x.teeth);
                    int after = far(Math.floorMod(x.points + t.getValue(), x.teeth), wants(w), x.teeth);
                    good += after < before ? strong[x.place] : 0;
                    bad += after > before ? strong[x.place] : 0;
                }
                if (good > bad) {
                    turn(turns);
                    acted = acted < 0 ? v : acted;
                }
            }
            quarter++;
        }

        int hand(int v, int teeth) {
            int done = 0;
            while (done < Math.abs(teeth)) {
                Map<Integer, Integer> turns = drag(v, Integer.signum(teeth));
                if (turns == null) {
                    break;
                }
                turn(turns);
                done++;
            }
            return done;
        }

        World ahead(int quarters) {
            World w = copy();
            for (int i = 0; i < quarters; i++) {
                w.quarter();
            }
            return w;
        }

        String look() {
            StringBuilder s = new StringBuilder();
            for (Vane v : vanes) {
                s.append(v.points).append(' ');
            }
            for (Shaft f : shafts) {
                s.append(f.play).append(' ');
            }
            return s.toString();
        }

        int teethTurned() {
            int sum = 0;
            for (Vane v : vanes) {
                sum += v.turned;
            }
            return sum;
        }

        void blow(int direction, int ofStrong) {
            Arrays.fill(from, direction);
            Arrays.fill(strong, ofStrong);
        }

        World lifted(int shaft) {
            World w = copy();
            w.shafts.get(shaft).lifted = true;
            return w;
        }

        /** Every way from one vane to another that comes to no vane twice, as its shafts. */
        void ways(int at, int to, List<Integer> vanesBy, List<Integer> shaftsBy, List<List<Integer>> found) {
            if (at == to) {
                found.add(new ArrayList<>(shaftsBy));
                return;
            }
            for (int s = 0; s < shafts.size(); s++) {
                Shaft f = shafts.get(s);
                if (f.lifted || (f.a != at && f.b != at)) {
                    continue;
                }
                int next = f.a == at ? f.b : f.a;
                if (vanesBy.contains(next)) {
                    continue;
                }
                vanesBy.add(next);
                shaftsBy.add(s);
                ways(next, to, vanesBy, shaftsBy, found);
                vanesBy.remove(vanesBy.size() - 1);
                shaftsBy.remove(shaftsBy.size() - 1);
            }
        }

        List<List<Integer>> ways(int a, int b) {
            List<List<Integer>> found = new ArrayList<>();
            List<Integer> by = new ArrayList<>();
            by.add(a);
            ways(a, b, by, new ArrayList<>(), found);
            return found;
        }

        int joined(int v) {
            int set = 1 << v;
            for (int i = 0; i < 8; i++) {
                for (Shaft s : shafts) {
                    if (!s.lifted && ((set >> s.a | set >> s.b) & 1) != 0) {
                        set |= 1 << s.a | 1 << s.b;
                    }
                }
            }
            return set;
        }
    }

    World now = new World();
    final ArrayDeque<World> marks = new ArrayDeque<>();
    int status;
    long top;
    long bottom = 1;
    final long[][] trays = new long[4][];
    final int[] sorts = new int[4];
    String tape = "";
    int faultKind = -1;
    int faultAt = -1;
    int[] ran;
    int[] ranTo;

    private int no(int why) {
        status = why;
        return -1;
    }

    private int yes(int value) {
        status = 0;
        return value;
    }

    // ---- trays

    int tray(int tray, int sort, int many) {
        if (tray < 0 || tray > 3 || sort < 0 || sort > 3 || many < 0 || many > 60) {
            return no(1) + 1;
        }
        trays[tray] = new long[many];
        sorts[tray] = sort;
        return yes(1);
    }

    int write(int tray, int place, long v) {
        if (tray < 0 || tray > 3) {
            return no(1) + 1;
        }
        if (trays[tray] == null) {
            return no(2) + 1;
        }
        if (place < 0 || place >= trays[tray].length) {
            return no(3) + 1;
        }
        int bits = 8 << sorts[tray];
        trays[tray][place] = v << (64 - bits) >> (64 - bits);
        return yes(1);
    }

    long read(int tray, int place) {
        if (tray < 0 || tray > 3) {
            return no(1);
        }
        if (trays[tray] == null) {
            return no(2);
        }
        if (place < 0 || place >= trays[tray].length) {
            return no(3);
        }
        status = 0;
        return trays[tray][place];
    }

    int pour(int from, int place, int to, int at, int many) {
        if (from < 0 || from > 3 || to < 0 || to > 3 || place < 0 || at < 0 || many < 0) {
            return no(1) + 1;
        }
        if (trays[from] == null || trays[to] == null) {
            return no(2) + 1;
        }
        if (sorts[from] != sorts[to]) {
            return no(8) + 1;
        }
        if ((long) place + many > trays[from].length || (long) at + many > trays[to].length) {
            return no(3) + 1;
        }
        long[] taken = Arrays.copyOfRange(trays[from], place, place + many);
        for (int i = 0; i < many; i++) {
            trays[to][at + i] = taken[i];
        }
        return yes(1);
    }

    // ---- texts

    int feed(int... ints) {
        if (tape.length() + 20 > 900) {
            return -1;
        }
        StringBuilder s = new StringBuilder(tape);
        for (int i : ints) {
            for (int k = 3; k >= 0; k--) {
                s.append((char) (i >>> 8 * k & 255));
            }
        }
        tape = s.toString();
        return tape.length();
    }

    private static final Pattern TOKEN = Pattern.compile("[a-z]+|[0-9]+|[;<>=]");
    private static final List<String> WORDS = List.of("place", "vane", "teeth", "at", "stiff", "points", "gear",
            "belt", "of", "slack", "wind", "wait", "lift", "lower", "hold", "free", "turn", "gust", "when", "right",
            "loop", "end", "stop");

    private final List<String> tokens = new ArrayList<>();
    private final List<Integer> starts = new ArrayList<>();
    private int next;

    private void cut(String text) {
        tokens.clear();
        starts.clear();
        next = 0;
        Matcher m = TOKEN.matcher(text);
        int i = 0;
        while (i < text.length()) {
            if (text.charAt(i) == ' ' || text.charAt(i) == '\n') {
                i++;
                continue;
            }
            boolean is = m.find(i) && m.start() == i && !m.group().matches("[0-9]{5,}");
            starts.add(i);
            if (!is) {
                tokens.add("?");
                break;
            }
            tokens.add(m.group());
            i = m.end();
        }
        if (tokens.isEmpty() || !tokens.get(tokens.size() - 1).equals("?")) {
            tokens.add("");
            starts.add(text.length());
        }
    }

    private String see() {
        return tokens.get(next);
    }

    private Stop stop(int kind) {
        return new Stop(see().equals("?") ? 1 : kind, starts.get(next));
    }

    private void word(String word) {
        if (!see().equals(word)) {
            throw stop(2);
        }
        next++;
    }

    private int number(int least, int most) {
        if (!see().matches("[0-9]+")) {
            throw stop(2);
        }
        int n = Integer.parseInt(see());
        if (n < least || n > most) {
            throw stop(4);
        }
        next++;
        return n;
    }

    private String name() {
        if (!see().matches("[a-z]{1,8}") || WORDS.contains(see())) {
            throw stop(2);
        }
        return see();
    }

    private static List<String> names(World w, int kind) {
        List<String> names = new ArrayList<>();
        if (kind == 0 || kind == 3) {
            names.addAll(w.places);
        }
        if (kind == 1 || kind == 3) {
            for (Vane v : w.vanes) {
                names.add(v.name);
            }
        }
        if (kind == 2 || kind == 3) {
            for (Shaft s : w.shafts) {
                names.add(s.name);
            }
        }
        return names;
    }

    private String newName(World w) {
        String name = name();
        if (names(w, 3).contains(name)) {
            throw stop(3);
        }
        next++;
        return name;
    }

    private int thing(World w, int kind) {
        int i = names(w, kind).indexOf(name());
        if (i < 0) {
            throw stop(3);
        }
        next++;
        return i;
    }

    private int option(String word, int most) {
        if (!see().equals(word)) {
            return 0;
        }
        next++;
        return number(0, most);
    }

    private World parseVillage(String text) {
        cut(text);
        World w = new World();
        while (!see().isEmpty()) {
            String what = see();
            if (!List.of("place", "vane", "gear", "belt").contains(what)) {
                throw stop(2);
            }
            int many = what.equals("place") ? w.places.size() : what.equals("vane") ? w.vanes.size() : w.shafts.size();
            if (many == (what.equals("place") ? 4 : what.equals("vane") ? 8 : 10)) {
                throw stop(6);
            }
            next++;
            String name = newName(w);
            if (what.equals("place")) {
                w.places.add(name);
            } else if (what.equals("vane")) {
                Vane v = new Vane();
                v.name = name;
                word("teeth");
                v.teeth = number(4, 60);
                word("at");
                v.place = thing(w, 0);
                v.stiff = option("stiff", 99);
                v.points = option("points", v.teeth - 1);
                w.vanes.add(v);
            } else {
                Shaft s = new Shaft();
                s.name = name;
                s.belt = what.equals("belt");
                word("of");
                s.a = thing(w, 1);
                int at = next;
                s.b = thing(w, 1);
                if (s.a == s.b) {
                    next = at;
                    throw stop(5);
                }
                s.slack = option("slack", 9);
                w.shafts.add(s);
            }
            word(";");
        }
        return w;
    }

    int village(int n) {
        if (n < 0 || n > tape.length()) {
            return no(1);
        }
        String text = tape.substring(0, n);
        tape = "";
        try {
            now = parseVillage(text);
        } catch (Stop s) {
            return fault(s);
        }
        faultKind = 0;
        faultAt = -1;
        return yes(now.vanes.size());
    }

    private int fault(Stop s) {
        faultKind = s.kind;
        faultAt = s.at;
        return no(9);
    }

    private int parsed;

    private List<Step> parseSteps(int depth) {
        List<Step> steps = new ArrayList<>();
        while (!see().isEmpty() && !(see().equals("end") && depth > 0)) {
            Step s = new Step();
            s.word = see();
            if (!List.of("wind", "gust", "wait", "lift", "lower", "hold", "free", "turn", "when", "loop", "stop")
                    .contains(s.word)) {
                throw stop(2);
            }
            if (parsed == 30) {
                throw stop(6);
            }
            boolean opens = s.word.equals("when") || s.word.equals("loop");
            if (opens && depth == 3) {
                throw stop(7);
            }
            parsed++;
            next++;
            parseParts(s);
            word(";");
            if (opens) {
                s.inner = parseSteps(depth + 1);
                word("end");
                word(";");
            }
            steps.add(s);
        }
        return steps;
    }

    private void parseParts(Step s) {
        switch (s.word) {
            case "wind":
                s.parts.add("" + thing(now, 0));
                s.parts.add("" + number(0, 15));
                s.parts.add("" + number(0, 99));
                break;
            case "gust":
                s.parts.add("" + number(0, 99));
                break;
            case "wait":
            case "loop":
                s.parts.add("" + number(1, 99));
                break;
            case "lift":
            case "lower":
                s.parts.add("" + thing(now, 2));
                break;
            case "hold":
            case "free":
                s.parts.add("" + thing(now, 1));
                break;
            case "turn":
                s.parts.add("" + thing(now, 1));
                s.parts.add("" + number(1, 99));
                break;
            case "when":
                parseTest(s);
                break;
            default:
                break;
        }
    }

    private void parseTest(Step s) {
        if (see().equals("right")) {
            next++;
            s.parts.add("right");
            s.parts.add("" + thing(now, 1));
            return;
        }
        word("points");
        int v = thing(now, 1);
        if (!List.of("<", ">", "=").contains(see())) {
            throw stop(2);
        }
        s.parts.add(see());
        s.parts.add("" + v);
        next++;
        s.parts.add("" + number(0, 60));
    }

    int orders(int n) {
        if (n < 0 || n > tape.length() || n > 300) {
            return no(1);
        }
        String text = tape.substring(0, n);
        tape = "";
        List<Step> steps;
        try {
            cut(text);
            parsed = 0;
            steps = parseSteps(0);
        } catch (Stop s) {
            return fault(s);
        }
        faultKind = 0;
        faultAt = -1;
        now.orders = steps;
        return yes(parsed);
    }

    int fault(int what) {
        return what == 0 ? faultKind : what == 1 ? faultAt : -1;
    }

    int told(int what) {
        int set = 0;
        switch (what) {
            case 0:
                return yes(now.places.size());
            case 1:
                return yes(now.vanes.size());
            case 2:
                return yes(now.shafts.size());
            case 3:
                return yes(now.quarter);
            case 4:
                for (int s = 0; s < now.shafts.size(); s++) {
                    set += now.shafts.get(s).lifted ? 1 << s : 0;
                }
                return yes(set);
            case 5:
                for (int v : now.held) {
                    set += 1 << v;
                }
                return yes(set);
            default:
                return no(1);
        }
    }

    private boolean isVane(int v) {
        return v >= 0 && v < now.vanes.size();
    }

    private boolean isShaft(int s) {
        return s >= 0 && s < now.shafts.size();
    }

    int vane(int v, int what) {
        if (!isVane(v) || what < 0 || what > 5) {
            return no(1);
        }
        Vane x = now.vanes.get(v);
        return yes(new int[] {x.teeth, x.place, x.stiff, x.points, x.turned, x.struck}[what]);
    }

    int shaft(int s, int what) {
        if (!isShaft(s) || what < 0 || what > 4) {
            return no(1);
        }
        Shaft x = now.shafts.get(s);
        return yes(new int[] {x.a, x.b, x.belt ? 1 : 0, x.slack, x.play}[what]);
    }

    int wants(int v) {
        if (!isVane(v)) {
            return no(1);
        }
        return now.calm(v) ? no(6) : yes(now.wants(v));
    }

    int right(int v) {
        return isVane(v) ? yes(now.right(v) ? 1 : 0) : no(1);
    }

    // ---- what is done

    int wind(int place, int direction, int strong) {
        if (place < 0 || place >= now.places.size() || direction < 0 || direction > 15 || strong < 0 || strong > 99) {
            return no(1) + 1;
        }
        now.from[place] = direction;
        now.strong[place] = strong;
        return yes(1);
    }

    int windAt(int place, int what) {
        if (place < 0 || place >= now.places.size() || what < 0 || what > 1) {
            return no(1);
        }
        return yes(what == 0 ? now.from[place] : now.strong[place]);
    }

    int lift(int s, boolean is) {
        if (!isShaft(s)) {
            return no(1) + 1;
        }
        now.shafts.get(s).lifted = is;
        return yes(1);
    }

    int hold(int v, boolean is) {
        if (!isVane(v)) {
            return no(1) + 1;
        }
        if (is) {
            now.held.add(v);
        } else {
            now.held.remove(v);
        }
        return yes(1);
    }

    int pass(int quarters) {
        if (quarters < 1 || quarters > 99) {
            return no(1);
        }
        if (now.quarter + quarters > 9999) {
            return no(4);
        }
        for (int i = 0; i < quarters; i++) {
            now.quarter();
        }
        return yes(now.quarter);
    }

    int turn(int v, int teeth) {
        if (!isVane(v) || teeth < -99 || teeth > 99 || teeth == 0) {
            return no(1);
        }
        return yes(now.hand(v, teeth));
    }

    private static int set(Iterable<Integer> ones) {
        int set = 0;
        for (int i : ones) {
            set += 1 << i;
        }
        return set;
    }

    int drags(int v, int tooth) {
        if (!isVane(v) || tooth * (long) tooth != 1) {
            return no(1);
        }
        Map<Integer, Integer> turns = now.drag(v, tooth);
        return turns == null ? no(7) : yes(set(turns.keySet()));
    }

    // ---- joins

    int joined(int v) {
        return isVane(v) ? yes(now.joined(v)) : no(1);
    }

    private void fraction(long above, long below) {
        long divisor = BigInteger.valueOf(above).gcd(BigInteger.valueOf(below)).longValue();
        top = above / divisor;
        bottom = below / divisor;
    }

    int ratio(int a, int b) {
        if (!isVane(a) || !isVane(b)) {
            return no(1) + 1;
        }
        List<List<Integer>> ways = now.ways(a, b);
        if (ways.isEmpty()) {
            return no(7) + 1;
        }
        // Found first by the least shafts: of the shortest ways the least, shaft by shaft.
        List<Integer> best = null;
        for (List<Integer> way : ways) {
            if (best == null || way.size() < best.size() || way.size() == best.size() && less(way, best)) {
                best = way;
            }
        }
        int sign = 1;
        for (int s : best) {
            sign *= now.shafts.get(s).belt ? 1 : -1;
        }
        fraction(sign * now.vanes.get(a).teeth, now.vanes.get(b).teeth);
        return yes(1);
    }

    private static boolean less(List<Integer> a, List<Integer> b) {
        for (int i = 0; i < a.size(); i++) {
            if (!a.get(i).equals(b.get(i))) {
                return a.get(i) < b.get(i);
            }
        }
        return false;
    }

    int locked() {
        int set = 0;
        int n = now.vanes.size();
        for (int v = 0; v < n; v++) {
            // Vane i to the right is i, to the left is n + i.
            TreeSet<Integer> must = new TreeSet<>();
            must.add(v);
            for (int round = 0; round < 2 * n; round++) {
                for (Shaft s : now.shafts) {
                    for (int i : new ArrayList<>(must)) {
                        int one = i % n;
                        if (s.lifted || (one != s.a && one != s.b)) {
                            continue;
                        }
                        boolean left = i >= n != !s.belt;
                        must.add((one == s.a ? s.b : s.a) + (left ? n : 0));
                    }
                }
            }
            set += must.contains(v + n) ? 1 << v : 0;
        }
        return yes(set);
    }

    long common(int set) {
        if (set <= 0 || set >= 1 << now.vanes.size()) {
            return no(1);
        }
        BigInteger common = BigInteger.ONE;
        for (int v = 0; v < now.vanes.size(); v++) {
            if ((set >> v & 1) == 1) {
                BigInteger teeth = BigInteger.valueOf(now.vanes.get(v).teeth);
                common = common.multiply(teeth).divide(common.gcd(teeth));
            }
        }
        status = 0;
        return common.longValueExact();
    }

    int sway(int a, int b) {
        if (!isVane(a) || !isVane(b)) {
            return no(1);
        }
        int least = Integer.MAX_VALUE;
        for (List<Integer> way : now.ways(a, b)) {
            int sum = 0;
            for (int s : way) {
                sum += now.shafts.get(s).slack;
            }
            least = Math.min(least, sum);
        }
        return least == Integer.MAX_VALUE ? no(7) : yes(least);
    }

    // ---- ahead

    private static boolean isAhead(int ahead) {
        return ahead >= 0 && ahead <= 400;
    }

    private static boolean isSpan(int quarters) {
        return quarters >= 1 && quarters <= 400;
    }

    int points(int v, int ahead) {
        return isVane(v) && isAhead(ahead) ? yes(now.ahead(ahead).vanes.get(v).points) : no(1);
    }

    int rights(int ahead) {
        return isAhead(ahead) ? yes(now.ahead(ahead).rights()) : no(1);
    }

    int again(int what) {
        if (what < 0 || what > 1) {
            return no(1);
        }
        List<String> looks = new ArrayList<>();
        World w = now.copy();
        for (int i = 0; i <= 400; i++) {
            looks.add(w.look());
            w.quarter();
        }
        for (int a = 0; a <= 400; a++) {
            for (int b = a + 1; b <= 400; b++) {
                if (looks.get(a).equals(looks.get(b))) {
                    return yes(what == 0 ? a : b - a);
                }
            }
        }
        return no(6);
    }

    int strikes(int v, int quarters) {
        if (!isVane(v) || !isSpan(quarters)) {
            return no(1);
        }
        int sum = 0;
        for (int b : now.ahead(quarters).bells) {
            sum += b == v ? 1 : 0;
        }
        return yes(sum);
    }

    int bell(int k, int quarters) {
        if (k < 0 || !isSpan(quarters)) {
            return no(1);
        }
        List<Integer> bells = now.ahead(quarters).bells;
        return k < bells.size() ? yes(bells.get(k)) : no(6);
    }

    private static int wrongOf(World w, int v, int quarters) {
        World at = w.copy();
        int sum = 0;
        for (int i = 0; i < quarters; i++) {
            at.quarter();
            sum += at.right(v) ? 0 : 1;
        }
        return sum;
    }

    int wrong(int v, int quarters) {
        return isVane(v) && isSpan(quarters) ? yes(wrongOf(now, v, quarters)) : no(1);
    }

    int holding(int v, int quarters) {
        if (!isVane(v) || !isSpan(quarters)) {
            return no(1);
        }
        World held = now.copy();
        held.held.add(v);
        int more = 0;
        for (int w = 0; w < now.vanes.size(); w++) {
            if (w != v) {
                more += wrongOf(held, w, quarters) - wrongOf(now, w, quarters);
            }
        }
        return yes(more);
    }

    int helpers(int v) {
        if (!isVane(v)) {
            return no(1);
        }
        if (now.right(v)) {
            return no(6);
        }
        Map<Integer, Integer> turns = now.drag(v, now.way(v));
        if (turns == null) {
            return no(7);
        }
        World then = now.copy();
        then.turn(turns);
        int set = 0;
        for (int w : turns.keySet()) {
            Vane before = now.vanes.get(w);
            Vane after = then.vanes.get(w);
            if (w != v && !now.calm(w) && World.far(after.points, now.wants(w), after.teeth)
                    < World.far(before.points, now.wants(w), before.teeth)) {
                set += 1 << w;
            }
        }
        return yes(set);
    }

    int firstToTurn() {
        int first = now.ahead(1).acted;
        return first < 0 ? no(6) : yes(first);
    }

    int heaviest() {
        int best = -1;
        int most = 0;
        for (int v = 0; v < now.vanes.size(); v++) {
            for (int tooth = -1; tooth <= 1; tooth += 2) {
                Map<Integer, Integer> turns = now.drag(v, tooth);
                if (turns != null && turns.size() > most) {
                    most = turns.size();
                    best = v;
                }
            }
        }
        return best < 0 ? no(6) : yes(best);
    }

    int farthest() {
        int best = -1;
        int most = 0;
        for (int v = 0; v < now.vanes.size(); v++) {
            Vane x = now.vanes.get(v);
            if (!now.calm(v) && World.far(x.points, now.wants(v), x.teeth) > most) {
                most = World.far(x.points, now.wants(v), x.teeth);
                best = v;
            }
        }
        return best < 0 ? no(6) : yes(best);
    }

    int calmed() {
        World w = now.copy();
        for (int i = 0; i < 400; i++) {
            int before = w.teethTurned();
            w.quarter();
            if (w.teethTurned() == before) {
                return yes(i);
            }
        }
        return no(6);
    }

    int teeth(int quarters) {
        return isSpan(quarters) ? yes(now.ahead(quarters).teethTurned() - now.teethTurned()) : no(1);
    }

    int bestWind(int strong, int ahead) {
        if (strong < 1 || strong > 99 || !isAhead(ahead)) {
            return no(1);
        }
        int best = -1;
        int most = -1;
        for (int d = 0; d < 16; d++) {
            World w = now.copy();
            w.blow(d, strong);
            int many = Integer.bitCount(w.ahead(ahead).rights());
            if (many > most) {
                most = many;
                best = d;
            }
        }
        return yes(best);
    }

    int parting() {
        int set = 0;
        for (int s = 0; s < now.shafts.size(); s++) {
            if (now.shafts.get(s).lifted) {
                continue;
            }
            World w = now.lifted(s);
            for (int v = 0; v < now.vanes.size(); v++) {
                if (w.joined(v) != now.joined(v)) {
                    set |= 1 << s;
                }
            }
        }
        return yes(set);
    }

    int mending(int ahead) {
        if (!isAhead(ahead)) {
            return no(1);
        }
        int most = Integer.bitCount(now.ahead(ahead).rights());
        int best = -1;
        for (int s = 0; s < now.shafts.size(); s++) {
            if (now.shafts.get(s).lifted) {
                continue;
            }
            int many = Integer.bitCount(now.lifted(s).ahead(ahead).rights());
            if (many > most) {
                most = many;
                best = s;
            }
        }
        return best < 0 ? no(6) : yes(best);
    }

    // ---- what may be

    private static int leavingOf(World w, int strong) {
        int set = 0;
        for (int d = 0; d < 16; d++) {
            World blown = w.copy();
            blown.blow(d, strong);
            set += blown.ahead(1).teethTurned() == w.teethTurned() ? 1 << d : 0;
        }
        return set;
    }

    int leaving(int strong) {
        return strong < 1 || strong > 99 ? no(1) : yes(leavingOf(now, strong));
    }

    int knowing(int strong) {
        if (strong < 1 || strong > 99) {
            return no(1);
        }
        int fewest = Integer.bitCount(leavingOf(now, strong));
        int best = -1;
        for (int s = 0; s < now.shafts.size(); s++) {
            if (now.shafts.get(s).lifted) {
                continue;
            }
            int many = Integer.bitCount(leavingOf(now.lifted(s), strong));
            if (many < fewest) {
                fewest = many;
                best = s;
            }
        }
        return best < 0 ? no(6) : yes(best);
    }

    private int seenStatus(int tray, int rows) {
        if (tray < 0 || tray > 3 || rows < 1 || rows > 15) {
            return 1;
        }
        if (trays[tray] == null) {
            return 2;
        }
        int n = now.vanes.size();
        if (trays[tray].length < rows * n) {
            return 3;
        }
        for (int i = 0; i < rows * n; i++) {
            if (trays[tray][i] < 0 || trays[tray][i] >= now.vanes.get(i % n).teeth) {
                return 5;
            }
        }
        return 0;
    }

    private boolean comes(World w, int tray, int rows) {
        List<Long> seen = new ArrayList<>();
        for (int r = 1; r <= rows; r++) {
            for (Vane v : w.ahead(r).vanes) {
                seen.add((long) v.points);
            }
        }
        for (int i = 0; i < seen.size(); i++) {
            if (seen.get(i) != trays[tray][i]) {
                return false;
            }
        }
        return true;
    }

    int whole(int tray, int rows) {
        int no = seenStatus(tray, rows);
        return no != 0 ? no(no) : yes(comes(now, tray, rows) ? 1 : 0);
    }

    int broken(int tray, int rows) {
        int no = seenStatus(tray, rows);
        if (no != 0) {
            return no(no);
        }
        int set = 0;
        for (int s = 0; s < now.shafts.size(); s++) {
            set += !now.shafts.get(s).lifted && comes(now.lifted(s), tray, rows) ? 1 << s : 0;
        }
        return yes(set);
    }

    // ---- orders

    private int drawn;
    private int waited;
    private boolean left;

    /** False if it is at its end: by a stop, or since a STEP would be the 401st. */
    private boolean carryOut(World w, List<Step> steps) {
        for (Step s : steps) {
            if (w.stepsTaken == 400) {
                left = true;
                return false;
            }
            w.stepsTaken++;
            if (s.word.equals("stop") || !carryOut(w, s)) {
                return false;
            }
        }
        return true;
    }

    private boolean carryOut(World w, Step s) {
        int[] n = new int[3];
        for (int i = 0; i < s.parts.size(); i++) {
            n[i] = s.parts.get(i).matches("[0-9]+") ? Integer.parseInt(s.parts.get(i)) : 0;
        }
        switch (s.word) {
            case "wind":
                w.from[n[0]] = n[1];
                w.strong[n[0]] = n[2];
                return true;
            case "gust":
                for (int p = 0; p < w.places.size(); p++) {
                    drawn = (drawn * 2683 + 11587) % 65536;
                    w.from[p] = drawn / 8 % 16;
                    w.strong[p] = n[0];
                }
                return true;
            case "wait":
                for (int i = 0; i < n[0]; i++) {
                    w.quarter();
                    waited++;
                }
                return true;
            case "lift":
            case "lower":
                w.shafts.get(n[0]).lifted = s.word.equals("lift");
                return true;
            case "hold":
                w.held.add(n[0]);
                return true;
            case "free":
                w.held.remove(n[0]);
                return true;
            case "turn":
                w.hand(n[0], n[1]);
                return true;
            case "loop":
                for (int i = 0; i < n[0]; i++) {
                    if (!carryOut(w, s.inner)) {
                        return false;
                    }
                }
                return true;
            default:
                return !isSo(w, s, n) || carryOut(w, s.inner);
        }
    }

    private static boolean isSo(World w, Step s, int[] n) {
        int points = w.vanes.get(n[1]).points;
        switch (s.parts.get(0)) {
            case "right":
                return w.right(n[1]);
            case "<":
                return points < n[2];
            case ">":
                return points > n[2];
            default:
                return points == n[2];
        }
    }

    private World runOnce(int seed) {
        World w = now.copy();
        drawn = seed;
        waited = 0;
        left = false;
        carryOut(w, now.orders);
        return w;
    }

    int run(int seed) {
        if (seed < 0 || seed > 9999) {
            return no(1);
        }
        if (now.orders == null) {
            return no(6);
        }
        World w = runOnce(seed);
        ran = new int[] {waited, w.teethTurned() - now.teethTurned(), w.bells.size(), w.rights(), left ? 1 : 0};
        ranTo = new int[w.vanes.size()];
        for (int v = 0; v < ranTo.length; v++) {
            ranTo[v] = w.vanes.get(v).points;
        }
        return yes(w.stepsTaken);
    }

    int ran(int what) {
        if (what < 0 || what > 4) {
            return no(1);
        }
        return ran == null ? no(6) : yes(ran[what]);
    }

    int ranTo(int v) {
        if (v < 0 || v > 7) {
            return no(1);
        }
        return ranTo == null || v >= ranTo.length ? no(6) : yes(ranTo[v]);
    }

    int odds(int v, int seed, int many) {
        if (!isVane(v) || seed < 0 || many < 1 || many > 20 || (long) seed + many - 1 > 9999) {
            return no(1) + 1;
        }
        if (now.orders == null) {
            return no(6) + 1;
        }
        int rights = 0;
        for (int i = 0; i < many; i++) {
            rights += runOnce(seed + i).right(v) ? 1 : 0;
        }
        fraction(rights, many);
        return yes(1);
    }

    // ---- marks

    int mark() {
        if (marks.size() == 3) {
            return no(4);
        }
        marks.push(now.copy());
        return yes(marks.size());
    }

    int back() {
        if (marks.isEmpty()) {
            return no(6);
        }
        now = marks.pop();
        return yes(marks.size());
    }
}
