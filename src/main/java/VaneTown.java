/**
 * A village whose weather vanes are joined by shafts under its streets. ../shared/DOC.md says what
 * each call promises.
 *
 * <p>All rows are made with the object and used again, since no call may make rows of its own: a
 * whole run of calls lives in one small room.
 */
public final class VaneTown {
    public static final int NONE = -1;

    private static final int NO_NUMBER = 1;
    private static final int MISSING = 2;
    private static final int NO_PLACE = 3;
    private static final int TOO_MANY = 4;
    private static final int NO_TOOTH = 5;
    private static final int NONE_SUCH = 6;
    private static final int CAN_NOT_BE = 7;
    private static final int UNLIKE = 8;
    private static final int FAULT = 9;

    private static final int MOST_PLACES = 4;
    private static final int MOST_VANES = 8;
    private static final int MOST_SHAFTS = 10;
    private static final int MOST_TRAYS = 4;
    private static final int MOST_MARKS = 3;
    private static final int MOST_ORDER_BYTES = 300;
    private static final int MOST_AHEAD = 400;
    private static final int MOST_STRONG = 99;
    private static final int DIRECTIONS = 16;
    private static final int LAST_QUARTER = 9999;
    private static final int LAST_SEED = 9999;

    private int status;
    private long top;
    private long bottom = 1;
    private final Tray[] trays = new Tray[MOST_TRAYS];
    private final Text text = new Text();
    private final VillageReader villageReader = new VillageReader();
    private final OrdersReader ordersReader = new OrdersReader();
    private int faultKind = NONE;
    private int faultPlace = NONE;
    private final Town now = new Town();
    private Plan sparePlan = new Plan();
    private Steps spareOrders = new Steps();
    private final Town[] kept = new Town[MOST_MARKS];
    private int marks;
    private final Works works = new Works();
    private final State sight = new State();
    private final Joins joins = new Joins();
    private final Runner runner = new Runner();

    public VaneTown() {
        for (int i = 0; i < MOST_TRAYS; i++) {
            trays[i] = new Tray();
        }
        for (int i = 0; i < MOST_MARKS; i++) {
            kept[i] = new Town();
        }
    }

    public int status() {
        return status;
    }

    public long top() {
        return top;
    }

    public long bottom() {
        return bottom;
    }

    // ---- TRAYS

    public boolean tray(int tray, int sort, int many) {
        if (!isTray(tray) || sort < 0 || sort > 3 || many < 0 || many > Tray.MOST) {
            return refuse(NO_NUMBER);
        }
        trays[tray].lay(sort, many);
        return agree();
    }

    public boolean write(int tray, int place, long v) {
        int no = trayPlaceStatus(tray, place);
        if (no != 0) {
            return refuse(no);
        }
        trays[tray].put(place, v);
        return agree();
    }

    public long read(int tray, int place) {
        int no = trayPlaceStatus(tray, place);
        if (no != 0) {
            return none(no);
        }
        status = 0;
        return trays[tray].numbers[place];
    }

    public boolean pour(int from, int place, int to, int at, int many) {
        if (!isTray(from) || !isTray(to) || place < 0 || at < 0 || many < 0) {
            return refuse(NO_NUMBER);
        }
        Tray source = trays[from];
        Tray target = trays[to];
        if (source.isMissing() || target.isMissing()) {
            return refuse(MISSING);
        }
        if (source.sort != target.sort) {
            return refuse(UNLIKE);
        }
        if (!source.hasFrom(place, many) || !target.hasFrom(at, many)) {
            return refuse(NO_PLACE);
        }
        System.arraycopy(source.numbers, place, target.numbers, at, many);
        return agree();
    }

    // ---- texts

    public int feed(int a, int b, int c, int d, int e) {
        if (!text.hasRoomFor(20)) {
            return NONE;
        }
        text.append(a);
        text.append(b);
        text.append(c);
        text.append(d);
        text.append(e);
        return text.taped;
    }

    public int village(int n) {
        if (n < 0 || n > text.taped) {
            return none(NO_NUMBER);
        }
        text.open(n);
        boolean isTaken = villageReader.readAll(text, sparePlan);
        closeText();
        if (!isTaken) {
            return none(FAULT);
        }
        Plan plan = sparePlan;
        sparePlan = now.plan;
        now.plan = plan;
        now.state.begin(plan);
        now.orders.clear();
        return answer(plan.vanes);
    }

    public int orders(int n) {
        if (n < 0 || n > text.taped || n > MOST_ORDER_BYTES) {
            return none(NO_NUMBER);
        }
        text.open(n);
        boolean isTaken = ordersReader.readAll(text, now.plan, spareOrders);
        closeText();
        if (!isTaken) {
            return none(FAULT);
        }
        Steps orders = spareOrders;
        spareOrders = now.orders;
        now.orders = orders;
        return answer(orders.many);
    }

    public int fault(int what) {
        if (what == 0) {
            return faultKind;
        }
        return what == 1 ? faultPlace : NONE;
    }

    public int told(int what) {
        switch (what) {
            case 0:
                return answer(now.plan.places);
            case 1:
                return answer(now.plan.vanes);
            case 2:
                return answer(now.plan.shafts);
            case 3:
                return answer(now.state.quarter);
            case 4:
                return answer(now.state.lifted);
            case 5:
                return answer(now.state.held);
            default:
                return none(NO_NUMBER);
        }
    }

    public int vane(int vane, int what) {
        if (!isVane(vane)) {
            return none(NO_NUMBER);
        }
        switch (what) {
            case 0:
                return answer(now.plan.teeth[vane]);
            case 1:
                return answer(now.plan.home[vane]);
            case 2:
                return answer(now.plan.stiff[vane]);
            case 3:
                return answer(now.state.points[vane]);
            case 4:
                return answer(now.state.turned[vane]);
            case 5:
                return answer(now.state.struck[vane]);
            default:
                return none(NO_NUMBER);
        }
    }

    public int shaft(int shaft, int what) {
        if (!isShaft(shaft)) {
            return none(NO_NUMBER);
        }
        switch (what) {
            case 0:
                return answer(now.plan.first[shaft]);
            case 1:
                return answer(now.plan.second[shaft]);
            case 2:
                return answer(now.plan.sense[shaft] == Plan.SAME_WAY ? 1 : 0);
            case 3:
                return answer(now.plan.slack[shaft]);
            case 4:
                return answer(now.state.play[shaft]);
            default:
                return none(NO_NUMBER);
        }
    }

    public int wants(int vane) {
        if (!isVane(vane)) {
            return none(NO_NUMBER);
        }
        workOnNow();
        int wanted = works.wanted[vane];
        return wanted == NONE ? none(NONE_SUCH) : answer(wanted);
    }

    public int right(int vane) {
        if (!isVane(vane)) {
            return none(NO_NUMBER);
        }
        workOnNow();
        return answer(works.isRight(vane) ? 1 : 0);
    }

    // ---- what is done

    public boolean wind(int place, int direction, int strong) {
        if (!isPlace(place) || direction < 0 || direction >= DIRECTIONS) {
            return refuse(NO_NUMBER);
        }
        if (strong < 0 || strong > MOST_STRONG) {
            return refuse(NO_NUMBER);
        }
        now.state.from[place] = direction;
        now.state.strong[place] = strong;
        return agree();
    }

    public int windAt(int place, int what) {
        if (!isPlace(place) || what < 0 || what > 1) {
            return none(NO_NUMBER);
        }
        return answer(what == 0 ? now.state.from[place] : now.state.strong[place]);
    }

    public boolean lift(int shaft, boolean is) {
        if (!isShaft(shaft)) {
            return refuse(NO_NUMBER);
        }
        now.state.lifted = with(now.state.lifted, shaft, is);
        return agree();
    }

    public boolean hold(int vane, boolean is) {
        if (!isVane(vane)) {
            return refuse(NO_NUMBER);
        }
        now.state.held = with(now.state.held, vane, is);
        return agree();
    }

    public int pass(int quarters) {
        if (quarters < 1 || quarters > 99) {
            return none(NO_NUMBER);
        }
        if (now.state.quarter + quarters > LAST_QUARTER) {
            return none(TOO_MANY);
        }
        workOnNow();
        works.goOn(quarters);
        now.state.quarter += quarters;
        return answer(now.state.quarter);
    }

    public int turn(int vane, int teeth) {
        if (!isVane(vane) || teeth < -99 || teeth > 99 || teeth == 0) {
            return none(NO_NUMBER);
        }
        workOnNow();
        return answer(works.turnByHand(vane, teeth));
    }

    public int drags(int vane, int tooth) {
        if (!isVane(vane) || (tooth != 1 && tooth != -1)) {
            return none(NO_NUMBER);
        }
        workOnNow();
        return works.engage(vane, tooth) ? answer(works.moving) : none(CAN_NOT_BE);
    }

    // ---- joins

    public int joined(int vane) {
        if (!isVane(vane)) {
            return none(NO_NUMBER);
        }
        joins.search(now.plan, now.state.lifted, vane);
        return answer(joins.found);
    }

    public boolean ratio(int a, int b) {
        if (!isVane(a) || !isVane(b)) {
            return refuse(NO_NUMBER);
        }
        joins.search(now.plan, now.state.lifted, a);
        if (!has(joins.found, b)) {
            return refuse(CAN_NOT_BE);
        }
        // Teeth of the vanes between cancel out along any way; only which way round is the way's own.
        tellFraction((long) joins.side[b] * now.plan.teeth[a], now.plan.teeth[b]);
        return agree();
    }

    public int locked() {
        return answer(joins.lockedVanes(now.plan, now.state.lifted));
    }

    public long common(int set) {
        if (set <= 0 || set >= 1 << now.plan.vanes) {
            return none(NO_NUMBER);
        }
        long common = 1;
        for (int v = 0; v < now.plan.vanes; v++) {
            if (has(set, v)) {
                common = leastMultiple(common, now.plan.teeth[v]);
            }
        }
        status = 0;
        return common;
    }

    public int sway(int a, int b) {
        if (!isVane(a) || !isVane(b)) {
            return none(NO_NUMBER);
        }
        int least = joins.leastSlack(now.plan, now.state.lifted, a, b);
        return least == NONE ? none(CAN_NOT_BE) : answer(least);
    }

    // ---- AHEAD

    public int points(int vane, int ahead) {
        if (!isVane(vane) || !isAhead(ahead)) {
            return none(NO_NUMBER);
        }
        look();
        works.goOn(ahead);
        return answer(sight.points[vane]);
    }

    public int rights(int ahead) {
        if (!isAhead(ahead)) {
            return none(NO_NUMBER);
        }
        look();
        works.goOn(ahead);
        return answer(works.rightSet());
    }

    public int again(int what) {
        if (what < 0 || what > 1) {
            return none(NO_NUMBER);
        }
        // With each turn the gaps of all vanes, weighed by their winds, come to less (what is for it
        // is more than what is against), so that nothing comes again but by standing still.
        int quarters = quartersToCalm();
        if (quarters == NONE) {
            return none(NONE_SUCH);
        }
        return answer(what == 0 ? quarters : 1);
    }

    public int strikes(int vane, int quarters) {
        if (!isVane(vane) || !isSpan(quarters)) {
            return none(NO_NUMBER);
        }
        look();
        works.goOn(quarters);
        return answer(sight.struck[vane] - now.state.struck[vane]);
    }

    public int bell(int k, int quarters) {
        if (k < 0 || !isSpan(quarters)) {
            return none(NO_NUMBER);
        }
        look();
        works.listenFor(k);
        works.goOn(quarters);
        return works.ringer == NONE ? none(NONE_SUCH) : answer(works.ringer);
    }

    public int wrong(int vane, int quarters) {
        if (!isVane(vane) || !isSpan(quarters)) {
            return none(NO_NUMBER);
        }
        look();
        return answer(works.wrongQuarters(1 << vane, quarters));
    }

    public int holding(int vane, int quarters) {
        if (!isVane(vane) || !isSpan(quarters)) {
            return none(NO_NUMBER);
        }
        int others = with(allVanes(), vane, false);
        look();
        int without = works.wrongQuarters(others, quarters);
        look();
        sight.held = with(sight.held, vane, true);
        return answer(works.wrongQuarters(others, quarters) - without);
    }

    public int helpers(int vane) {
        if (!isVane(vane)) {
            return none(NO_NUMBER);
        }
        workOnNow();
        if (works.isRight(vane)) {
            return none(NONE_SUCH);
        }
        if (!works.engage(vane, works.shorterWay(vane))) {
            return none(CAN_NOT_BE);
        }
        return answer(works.comingNearer(vane));
    }

    public int firstToTurn() {
        workOnNow();
        int first = works.firstDriven();
        return first == NONE ? none(NONE_SUCH) : answer(first);
    }

    public int heaviest() {
        workOnNow();
        int heaviest = NONE;
        int most = 0;
        for (int v = 0; v < now.plan.vanes; v++) {
            int load = Math.max(works.loadOf(v, 1), works.loadOf(v, -1));
            if (load > most) {
                most = load;
                heaviest = v;
            }
        }
        return heaviest == NONE ? none(NONE_SUCH) : answer(heaviest);
    }

    public int farthest() {
        workOnNow();
        int farthest = NONE;
        int most = 0;
        for (int v = 0; v < now.plan.vanes; v++) {
            int gap = works.gapNow(v);
            if (gap > most) {
                most = gap;
                farthest = v;
            }
        }
        return farthest == NONE ? none(NONE_SUCH) : answer(farthest);
    }

    public int calmed() {
        int quarters = quartersToCalm();
        return quarters == NONE ? none(NONE_SUCH) : answer(quarters);
    }

    public int teeth(int quarters) {
        if (!isSpan(quarters)) {
            return none(NO_NUMBER);
        }
        look();
        works.goOn(quarters);
        return answer(works.teethMoved);
    }

    public int bestWind(int strong, int ahead) {
        if (!isBlowing(strong) || !isAhead(ahead)) {
            return none(NO_NUMBER);
        }
        int best = NONE;
        int most = -1;
        for (int d = 0; d < DIRECTIONS; d++) {
            look();
            works.blowEverywhere(d, strong);
            int many = rightsBehind(ahead);
            if (many > most) {
                most = many;
                best = d;
            }
        }
        return answer(best);
    }

    public int parting() {
        return answer(joins.partingShafts(now.plan, now.state.lifted));
    }

    public int mending(int ahead) {
        if (!isAhead(ahead)) {
            return none(NO_NUMBER);
        }
        look();
        int most = rightsBehind(ahead);
        int best = NONE;
        for (int s = 0; s < now.plan.shafts; s++) {
            if (has(now.state.lifted, s)) {
                continue;
            }
            look();
            sight.lifted = with(sight.lifted, s, true);
            int many = rightsBehind(ahead);
            if (many > most) {
                most = many;
                best = s;
            }
        }
        return best == NONE ? none(NONE_SUCH) : answer(best);
    }

    // ---- what may be

    public int leaving(int strong) {
        if (!isBlowing(strong)) {
            return none(NO_NUMBER);
        }
        look();
        return answer(leavingWinds(strong));
    }

    public int knowing(int strong) {
        if (!isBlowing(strong)) {
            return none(NO_NUMBER);
        }
        look();
        int fewest = Integer.bitCount(leavingWinds(strong));
        int best = NONE;
        for (int s = 0; s < now.plan.shafts; s++) {
            if (has(now.state.lifted, s)) {
                continue;
            }
            sight.lifted = with(now.state.lifted, s, true);
            int many = Integer.bitCount(leavingWinds(strong));
            if (many < fewest) {
                fewest = many;
                best = s;
            }
        }
        return best == NONE ? none(NONE_SUCH) : answer(best);
    }

    public int whole(int tray, int rows) {
        int no = seenStatus(tray, rows);
        if (no != 0) {
            return none(no);
        }
        look();
        return answer(comesAsSeen(trays[tray], rows) ? 1 : 0);
    }

    public int broken(int tray, int rows) {
        int no = seenStatus(tray, rows);
        if (no != 0) {
            return none(no);
        }
        int broken = 0;
        for (int s = 0; s < now.plan.shafts; s++) {
            if (has(now.state.lifted, s)) {
                continue;
            }
            look();
            sight.lifted = with(sight.lifted, s, true);
            if (comesAsSeen(trays[tray], rows)) {
                broken = with(broken, s, true);
            }
        }
        return answer(broken);
    }

    // ---- ORDERS

    public int run(int seed) {
        if (seed < 0 || seed > LAST_SEED) {
            return none(NO_NUMBER);
        }
        if (!now.orders.areGiven) {
            return none(NONE_SUCH);
        }
        runner.carryOut(now, seed, works);
        runner.report(works);
        return answer(runner.done);
    }

    public int ran(int what) {
        if (what < 0 || what > 4) {
            return none(NO_NUMBER);
        }
        return runner.hasRun ? answer(runner.latest[what]) : none(NONE_SUCH);
    }

    public int ranTo(int vane) {
        if (vane < 0 || vane >= MOST_VANES) {
            return none(NO_NUMBER);
        }
        return vane < runner.latestVanes ? answer(runner.latestPoints[vane]) : none(NONE_SUCH);
    }

    public boolean odds(int vane, int seed, int many) {
        if (!isVane(vane) || seed < 0 || seed > LAST_SEED || many < 1 || many > 20) {
            return refuse(NO_NUMBER);
        }
        if (seed + many - 1 > LAST_SEED) {
            return refuse(NO_NUMBER);
        }
        if (!now.orders.areGiven) {
            return refuse(NONE_SUCH);
        }
        int rights = 0;
        for (int i = 0; i < many; i++) {
            runner.carryOut(now, seed + i, works);
            if (works.isRight(vane)) {
                rights++;
            }
        }
        tellFraction(rights, many);
        return agree();
    }

    // ---- MARKS

    public int mark() {
        if (marks >= MOST_MARKS) {
            return none(TOO_MANY);
        }
        kept[marks].copyFrom(now);
        marks++;
        return answer(marks);
    }

    public int back() {
        if (marks <= 0) {
            return none(NONE_SUCH);
        }
        marks--;
        now.copyFrom(kept[marks]);
        return answer(marks);
    }

    // ---- what the calls share

    private int answer(int value) {
        status = 0;
        return value;
    }

    private boolean agree() {
        status = 0;
        return true;
    }

    private int none(int because) {
        status = because;
        return NONE;
    }

    private boolean refuse(int because) {
        status = because;
        return false;
    }

    private void tellFraction(long above, long below) {
        long divisor = greatestDivisor(Math.abs(above), below);
        if (divisor == 0) {
            return;
        }
        top = above / divisor;
        bottom = below / divisor;
    }

    private void closeText() {
        text.taped = 0;
        faultKind = text.fault;
        faultPlace = text.faultPlace;
    }

    private boolean isTray(int tray) {
        return tray >= 0 && tray < MOST_TRAYS;
    }

    private boolean isPlace(int place) {
        return place >= 0 && place < now.plan.places;
    }

    private boolean isVane(int vane) {
        return vane >= 0 && vane < now.plan.vanes;
    }

    private boolean isShaft(int shaft) {
        return shaft >= 0 && shaft < now.plan.shafts;
    }

    private boolean isAhead(int ahead) {
        return ahead >= 0 && ahead <= MOST_AHEAD;
    }

    private boolean isSpan(int quarters) {
        return quarters >= 1 && quarters <= MOST_AHEAD;
    }

    private boolean isBlowing(int strong) {
        return strong >= 1 && strong <= MOST_STRONG;
    }

    private int allVanes() {
        return (1 << now.plan.vanes) - 1;
    }

    private int trayPlaceStatus(int tray, int place) {
        if (!isTray(tray)) {
            return NO_NUMBER;
        }
        if (trays[tray].isMissing()) {
            return MISSING;
        }
        return place < 0 || place >= trays[tray].many ? NO_PLACE : 0;
    }

    private int seenStatus(int tray, int rows) {
        if (!isTray(tray) || rows < 1 || rows > 15) {
            return NO_NUMBER;
        }
        if (trays[tray].isMissing()) {
            return MISSING;
        }
        if (!trays[tray].hasFrom(0, rows * now.plan.vanes)) {
            return NO_PLACE;
        }
        return holdsTeeth(trays[tray], rows) ? 0 : NO_TOOTH;
    }

    private boolean holdsTeeth(Tray seen, int rows) {
        for (int r = 0; r < rows; r++) {
            for (int v = 0; v < now.plan.vanes; v++) {
                long tooth = seen.numbers[r * now.plan.vanes + v];
                if (tooth < 0 || tooth >= now.plan.teeth[v]) {
                    return false;
                }
            }
        }
        return true;
    }

    private void workOnNow() {
        works.use(now.plan, now.state);
    }

    /** What is asked of later quarters is tried on a copy, so that nothing of now is changed. */
    private void look() {
        sight.copyFrom(now.state);
        works.use(now.plan, sight);
    }

    private int quartersToCalm() {
        look();
        int quarters = works.goOn(MOST_AHEAD);
        return quarters == MOST_AHEAD ? NONE : quarters;
    }

    private int rightsBehind(int quarters) {
        works.goOn(quarters);
        return Integer.bitCount(works.rightSet());
    }

    private int leavingWinds(int strong) {
        int winds = 0;
        for (int d = 0; d < DIRECTIONS; d++) {
            works.blowEverywhere(d, strong);
            if (works.firstDriven() == NONE) {
                winds = with(winds, d, true);
            }
        }
        return winds;
    }

    private boolean comesAsSeen(Tray seen, int rows) {
        for (int r = 0; r < rows; r++) {
            works.goOn(1);
            for (int v = 0; v < now.plan.vanes; v++) {
                if (seen.numbers[r * now.plan.vanes + v] != sight.points[v]) {
                    return false;
                }
            }
        }
        return true;
    }

    private static boolean has(int set, int one) {
        return (set >> one & 1) != 0;
    }

    private static int with(int set, int one, boolean is) {
        return is ? set | 1 << one : set & ~(1 << one);
    }

    private static long greatestDivisor(long a, long b) {
        long great = a;
        long small = b;
        // Euclid's rests halve every two rounds: 200 rounds are more than two longs can need.
        for (int round = 0; round < 200 && small != 0; round++) {
            long rest = great % small;
            great = small;
            small = rest;
        }
        return great;
    }

    private static long leastMultiple(long a, long b) {
        long divisor = greatestDivisor(a, b);
        return divisor == 0 ? 0 : a / divisor * b;
    }

    /** A row of numbers of one sort, missing until it is laid. */
    private static final class Tray {
        static final int MOST = 60;

        int sort = NONE;
        int many;
        final long[] numbers = new long[MOST];

        boolean isMissing() {
            return sort == NONE;
        }

        void lay(int ofSort, int ofMany) {
            sort = ofSort;
            many = ofMany;
            for (int i = 0; i < MOST; i++) {
                numbers[i] = 0;
            }
        }

        void put(int place, long v) {
            switch (sort) {
                case 0:
                    numbers[place] = (byte) v;
                    break;
                case 1:
                    numbers[place] = (short) v;
                    break;
                case 2:
                    numbers[place] = (int) v;
                    break;
                default:
                    numbers[place] = v;
                    break;
            }
        }

        boolean hasFrom(int place, int ofMany) {
            return (long) place + ofMany <= many;
        }
    }

    /** What a VILLAGE's text says, none of which changes until another text is taken. */
    private static final class Plan {
        // How the two vanes of a belt turn, and those of a gear.
        static final int SAME_WAY = 1;
        static final int CONTRARY = -1;

        int places;
        int vanes;
        int shafts;
        final long[] placeNames = new long[MOST_PLACES];
        final long[] vaneNames = new long[MOST_VANES];
        final long[] shaftNames = new long[MOST_SHAFTS];
        final int[] teeth = new int[MOST_VANES];
        final int[] home = new int[MOST_VANES];
        final int[] stiff = new int[MOST_VANES];
        final int[] start = new int[MOST_VANES];
        final int[] first = new int[MOST_SHAFTS];
        final int[] second = new int[MOST_SHAFTS];
        final int[] sense = new int[MOST_SHAFTS];
        final int[] slack = new int[MOST_SHAFTS];

        void clear() {
            places = 0;
            vanes = 0;
            shafts = 0;
        }

        int placeNamed(long name) {
            return indexIn(placeNames, places, name);
        }

        int vaneNamed(long name) {
            return indexIn(vaneNames, vanes, name);
        }

        int shaftNamed(long name) {
            return indexIn(shaftNames, shafts, name);
        }

        boolean isTaken(long name) {
            return placeNamed(name) != NONE || vaneNamed(name) != NONE || shaftNamed(name) != NONE;
        }

        void copyFrom(Plan other) {
            places = other.places;
            vanes = other.vanes;
            shafts = other.shafts;
            System.arraycopy(other.placeNames, 0, placeNames, 0, MOST_PLACES);
            System.arraycopy(other.vaneNames, 0, vaneNames, 0, MOST_VANES);
            System.arraycopy(other.shaftNames, 0, shaftNames, 0, MOST_SHAFTS);
            System.arraycopy(other.teeth, 0, teeth, 0, MOST_VANES);
            System.arraycopy(other.home, 0, home, 0, MOST_VANES);
            System.arraycopy(other.stiff, 0, stiff, 0, MOST_VANES);
            System.arraycopy(other.start, 0, start, 0, MOST_VANES);
            System.arraycopy(other.first, 0, first, 0, MOST_SHAFTS);
            System.arraycopy(other.second, 0, second, 0, MOST_SHAFTS);
            System.arraycopy(other.sense, 0, sense, 0, MOST_SHAFTS);
            System.arraycopy(other.slack, 0, slack, 0, MOST_SHAFTS);
        }

        private static int indexIn(long[] names, int many, long name) {
            for (int i = 0; i < many; i++) {
                if (names[i] == name) {
                    return i;
                }
            }
            return NONE;
        }
    }

    /** All that changes as winds blow, quarters go by and hands are laid on. */
    private static final class State {
        final int[] from = new int[MOST_PLACES];
        final int[] strong = new int[MOST_PLACES];
        final int[] points = new int[MOST_VANES];
        final int[] turned = new int[MOST_VANES];
        final int[] struck = new int[MOST_VANES];
        final int[] play = new int[MOST_SHAFTS];
        int lifted;
        int held;
        int quarter;

        void begin(Plan plan) {
            blowEverywhere(0, 0);
            for (int v = 0; v < MOST_VANES; v++) {
                points[v] = v < plan.vanes ? plan.start[v] : 0;
                turned[v] = 0;
                struck[v] = 0;
            }
            for (int s = 0; s < MOST_SHAFTS; s++) {
                play[s] = 0;
            }
            lifted = 0;
            held = 0;
            quarter = 0;
        }

        void blowEverywhere(int direction, int ofStrong) {
            for (int p = 0; p < MOST_PLACES; p++) {
                from[p] = direction;
                strong[p] = ofStrong;
            }
        }

        void copyFrom(State other) {
            System.arraycopy(other.from, 0, from, 0, MOST_PLACES);
            System.arraycopy(other.strong, 0, strong, 0, MOST_PLACES);
            System.arraycopy(other.points, 0, points, 0, MOST_VANES);
            System.arraycopy(other.turned, 0, turned, 0, MOST_VANES);
            System.arraycopy(other.struck, 0, struck, 0, MOST_VANES);
            System.arraycopy(other.play, 0, play, 0, MOST_SHAFTS);
            lifted = other.lifted;
            held = other.held;
            quarter = other.quarter;
        }
    }

    /** ORDERS as rows: a STEP or an end each, with up to three numbers; ends know their beginnings. */
    private static final class Steps {
        static final int MOST = 30;
        // Each STEP may have an end.
        static final int MOST_ROWS = 2 * MOST;

        boolean areGiven;
        int many;
        int rows;
        final int[] kind = new int[MOST_ROWS];
        final int[] what = new int[MOST_ROWS];
        final int[] how = new int[MOST_ROWS];
        final int[] much = new int[MOST_ROWS];
        final int[] partner = new int[MOST_ROWS];

        void clear() {
            areGiven = false;
            many = 0;
            rows = 0;
        }

        void copyFrom(Steps other) {
            areGiven = other.areGiven;
            many = other.many;
            rows = other.rows;
            System.arraycopy(other.kind, 0, kind, 0, MOST_ROWS);
            System.arraycopy(other.what, 0, what, 0, MOST_ROWS);
            System.arraycopy(other.how, 0, how, 0, MOST_ROWS);
            System.arraycopy(other.much, 0, much, 0, MOST_ROWS);
            System.arraycopy(other.partner, 0, partner, 0, MOST_ROWS);
        }
    }

    /** What a MARK keeps. */
    private static final class Town {
        Plan plan = new Plan();
        final State state = new State();
        Steps orders = new Steps();

        void copyFrom(Town other) {
            plan.copyFrom(other.plan);
            state.copyFrom(other.state);
            orders.copyFrom(other.orders);
        }
    }

    /** The tape, and its TOKENS one by one, with the FAULT at which reading came to its end. */
    private static final class Text {
        static final int MOST = 900;

        static final int END_OF_TEXT = 0;
        static final int NO_TOKEN = 1;
        static final int WORD = 2;
        static final int NUMBER = 3;
        static final int SIGN = 4;

        static final int MOST_LETTERS = 8;
        static final int MOST_DIGITS = 4;

        static final int PLACE = 0;
        static final int VANE = 1;
        static final int TEETH = 2;
        static final int AT = 3;
        static final int STIFF = 4;
        static final int POINTS = 5;
        static final int GEAR = 6;
        static final int BELT = 7;
        static final int OF = 8;
        static final int SLACK = 9;
        static final int WIND = 10;
        static final int WAIT = 11;
        static final int LIFT = 12;
        static final int LOWER = 13;
        static final int HOLD = 14;
        static final int FREE = 15;
        static final int TURN = 16;
        static final int GUST = 17;
        static final int WHEN = 18;
        static final int RIGHT = 19;
        static final int LOOP = 20;
        static final int END = 21;
        static final int STOP = 22;

        // The letters of each keyword, eight bits each, as 'word' holds them.
        private static final long[] KEYWORDS = {
            0x706c616365L, // place
            0x76616e65L, // vane
            0x7465657468L, // teeth
            0x6174L, // at
            0x7374696666L, // stiff
            0x706f696e7473L, // points
            0x67656172L, // gear
            0x62656c74L, // belt
            0x6f66L, // of
            0x736c61636bL, // slack
            0x77696e64L, // wind
            0x77616974L, // wait
            0x6c696674L, // lift
            0x6c6f776572L, // lower
            0x686f6c64L, // hold
            0x66726565L, // free
            0x7475726eL, // turn
            0x67757374L, // gust
            0x7768656eL, // when
            0x7269676874L, // right
            0x6c6f6f70L, // loop
            0x656e64L, // end
            0x73746f70L, // stop
        };

        static final int CAN_NOT_BEGIN = 1;
        static final int CAN_NOT_STAND = 2;
        static final int BAD_NAME = 3;
        static final int BAD_NUMBER = 4;
        static final int SELF_JOINED = 5;
        static final int ONE_MORE = 6;
        static final int TOO_DEEP = 7;

        final byte[] tape = new byte[MOST];
        int taped;
        int length;
        int at;
        int next;
        int kind;
        int keyword;
        int sign;
        long word;
        int number;
        int taken;
        int fault;
        int faultPlace;

        boolean hasRoomFor(int bytes) {
            return taped + bytes <= MOST;
        }

        void append(int four) {
            for (int shift = 24; shift >= 0 && taped < MOST; shift -= 8) {
                tape[taped] = (byte) (four >> shift);
                taped++;
            }
        }

        void open(int ofLength) {
            length = Math.min(ofLength, MOST);
            next = 0;
            fault = 0;
            faultPlace = NONE;
            advance();
        }

        void advance() {
            int i = next;
            while (i < length && (tape[i] == ' ' || tape[i] == '\n')) {
                i++;
            }
            at = i;
            keyword = NONE;
            if (i >= length) {
                kind = END_OF_TEXT;
                next = length;
            } else if (tape[i] >= 'a' && tape[i] <= 'z') {
                scanWord();
            } else if (tape[i] >= '0' && tape[i] <= '9') {
                scanNumber();
            } else {
                sign = tape[i];
                kind = isSign(sign) ? SIGN : NO_TOKEN;
                next = i + 1;
            }
        }

        private void scanWord() {
            int i = at;
            word = 0;
            while (i < length && tape[i] >= 'a' && tape[i] <= 'z') {
                word = word << 8 | tape[i];
                i++;
            }
            next = i;
            kind = WORD;
            if (next - at > MOST_LETTERS) {
                word = 0;
            }
            for (int k = 0; k < KEYWORDS.length; k++) {
                if (KEYWORDS[k] == word) {
                    keyword = k;
                }
            }
        }

        private void scanNumber() {
            int i = at;
            number = 0;
            while (i < length && tape[i] >= '0' && tape[i] <= '9') {
                // Only numbers of few digits are used, so that what more digits do here is no matter.
                number = number * 10 + tape[i] - '0';
                i++;
            }
            next = i;
            kind = next - at > MOST_DIGITS ? NO_TOKEN : NUMBER;
        }

        private static boolean isSign(int c) {
            return c == ';' || c == '<' || c == '>' || c == '=';
        }

        boolean refuse(int because) {
            fault = because;
            faultPlace = at;
            return false;
        }

        boolean refuseToken() {
            return refuse(kind == NO_TOKEN ? CAN_NOT_BEGIN : CAN_NOT_STAND);
        }

        boolean takeSemicolon() {
            if (kind != SIGN || sign != ';') {
                return refuseToken();
            }
            advance();
            return true;
        }

        boolean takeCompare() {
            if (kind != SIGN || sign == ';') {
                return refuseToken();
            }
            taken = sign;
            advance();
            return true;
        }

        boolean takeKeyword(int which) {
            if (keyword != which) {
                return refuseToken();
            }
            advance();
            return true;
        }

        boolean takeNumber(int least, int most) {
            if (kind != NUMBER) {
                return refuseToken();
            }
            if (number < least || number > most) {
                return refuse(BAD_NUMBER);
            }
            taken = number;
            advance();
            return true;
        }

        /** A keyword with a number from 0 on, or else 0 without it. */
        boolean takeOption(int which, int most) {
            taken = 0;
            if (keyword != which) {
                return true;
            }
            advance();
            return takeNumber(0, most);
        }

        boolean seesName() {
            if (kind != WORD || word == 0 || keyword != NONE) {
                return refuseToken();
            }
            return true;
        }

        boolean takeNewName(Plan plan) {
            if (!seesName()) {
                return false;
            }
            if (plan.isTaken(word)) {
                return refuse(BAD_NAME);
            }
            advance();
            return true;
        }

        boolean takePlace(Plan plan) {
            return seesName() && takeThing(plan.placeNamed(word));
        }

        boolean takeVane(Plan plan) {
            return seesName() && takeThing(plan.vaneNamed(word));
        }

        boolean takeShaft(Plan plan) {
            return seesName() && takeThing(plan.shaftNamed(word));
        }

        private boolean takeThing(int thing) {
            if (thing == NONE) {
                return refuse(BAD_NAME);
            }
            taken = thing;
            advance();
            return true;
        }
    }

    /** Reads a VILLAGE's text to a plan. */
    private static final class VillageReader {
        private Text text;
        private Plan plan;

        boolean readAll(Text from, Plan into) {
            text = from;
            plan = into;
            plan.clear();
            // A PART takes more than one byte, so that there are fewer PARTS than bytes.
            for (int part = 0; part < Text.MOST && text.kind != Text.END_OF_TEXT; part++) {
                if (!readPart()) {
                    return false;
                }
            }
            return true;
        }

        private boolean readPart() {
            switch (text.keyword) {
                case Text.PLACE:
                    return plan.places < MOST_PLACES ? readPlace() : text.refuse(Text.ONE_MORE);
                case Text.VANE:
                    return plan.vanes < MOST_VANES ? readVane() : text.refuse(Text.ONE_MORE);
                case Text.GEAR:
                case Text.BELT:
                    return plan.shafts < MOST_SHAFTS ? readShaft() : text.refuse(Text.ONE_MORE);
                default:
                    return text.refuseToken();
            }
        }

        private boolean readPlace() {
            text.advance();
            long name = text.word;
            if (!text.takeNewName(plan) || !text.takeSemicolon()) {
                return false;
            }
            plan.placeNames[plan.places] = name;
            plan.places++;
            return true;
        }

        private boolean readVane() {
            int v = plan.vanes;
            text.advance();
            plan.vaneNames[v] = text.word;
            if (!text.takeNewName(plan) || !text.takeKeyword(Text.TEETH) || !text.takeNumber(4, 60)) {
                return false;
            }
            plan.teeth[v] = text.taken;
            if (!text.takeKeyword(Text.AT) || !text.takePlace(plan)) {
                return false;
            }
            plan.home[v] = text.taken;
            if (!text.takeOption(Text.STIFF, 99)) {
                return false;
            }
            plan.stiff[v] = text.taken;
            if (!text.takeOption(Text.POINTS, plan.teeth[v] - 1)) {
                return false;
            }
            plan.start[v] = text.taken;
            plan.vanes++;
            return text.takeSemicolon();
        }

        private boolean readShaft() {
            int s = plan.shafts;
            plan.sense[s] = text.keyword == Text.BELT ? Plan.SAME_WAY : Plan.CONTRARY;
            text.advance();
            plan.shaftNames[s] = text.word;
            if (!text.takeNewName(plan) || !text.takeKeyword(Text.OF) || !text.takeVane(plan)) {
                return false;
            }
            plan.first[s] = text.taken;
            if (text.seesName() && plan.vaneNamed(text.word) == plan.first[s]) {
                return text.refuse(Text.SELF_JOINED);
            }
            if (!text.takeVane(plan)) {
                return false;
            }
            plan.second[s] = text.taken;
            if (!text.takeOption(Text.SLACK, 9)) {
                return false;
            }
            plan.slack[s] = text.taken;
            plan.shafts++;
            return text.takeSemicolon();
        }
    }

    /** Reads ORDERS to rows, for the names of a plan. */
    private static final class OrdersReader {
        private static final int MOST_OPEN = 3;

        private Text text;
        private Plan plan;
        private Steps steps;
        private final int[] open = new int[MOST_OPEN];
        private int opened;

        boolean readAll(Text from, Plan names, Steps into) {
            text = from;
            plan = names;
            steps = into;
            steps.clear();
            opened = 0;
            // One row more than there may be is looked at, so as to be refused as what it is.
            for (int row = 0; row <= Steps.MOST_ROWS && text.kind != Text.END_OF_TEXT; row++) {
                if (!readRow()) {
                    return false;
                }
            }
            if (opened > 0 || text.kind != Text.END_OF_TEXT) {
                return text.refuseToken();
            }
            steps.areGiven = true;
            return true;
        }

        private boolean readRow() {
            int word = text.keyword;
            if (word == Text.END) {
                return opened > 0 ? readEnd() : text.refuseToken();
            }
            if (!isStep(word)) {
                return text.refuseToken();
            }
            if (steps.many >= Steps.MOST) {
                return text.refuse(Text.ONE_MORE);
            }
            boolean opens = word == Text.WHEN || word == Text.LOOP;
            if (opens && opened >= MOST_OPEN) {
                return text.refuse(Text.TOO_DEEP);
            }
            int row = steps.rows;
            text.advance();
            boolean isRead = word == Text.WHEN ? readTest(row) : readNumbers(word, row);
            if (!isRead || !text.takeSemicolon()) {
                return false;
            }
            addRow(word);
            steps.many++;
            if (opens) {
                open[opened] = row;
                opened++;
            }
            return true;
        }

        private boolean readEnd() {
            text.advance();
            if (!text.takeSemicolon()) {
                return false;
            }
            opened--;
            int beginning = open[opened];
            steps.partner[beginning] = steps.rows;
            steps.partner[steps.rows] = beginning;
            addRow(Text.END);
            return true;
        }

        private void addRow(int word) {
            steps.kind[steps.rows] = word;
            steps.rows++;
        }

        private static boolean isStep(int word) {
            switch (word) {
                case Text.WIND:
                case Text.GUST:
                case Text.WAIT:
                case Text.LIFT:
                case Text.LOWER:
                case Text.HOLD:
                case Text.FREE:
                case Text.TURN:
                case Text.WHEN:
                case Text.LOOP:
                case Text.STOP:
                    return true;
                default:
                    return false;
            }
        }

        private boolean readNumbers(int word, int row) {
            switch (word) {
                case Text.WIND:
                    return text.takePlace(plan) && keepWhat(row)
                            && text.takeNumber(0, DIRECTIONS - 1) && keepHow(row)
                            && text.takeNumber(0, MOST_STRONG) && keepMuch(row);
                case Text.GUST:
                    return text.takeNumber(0, MOST_STRONG) && keepMuch(row);
                case Text.WAIT:
                case Text.LOOP:
                    return text.takeNumber(1, 99) && keepMuch(row);
                case Text.LIFT:
                case Text.LOWER:
                    return text.takeShaft(plan) && keepWhat(row);
                case Text.HOLD:
                case Text.FREE:
                    return text.takeVane(plan) && keepWhat(row);
                case Text.TURN:
                    return text.takeVane(plan) && keepWhat(row)
                            && text.takeNumber(1, 99) && keepMuch(row);
                default:
                    return true;
            }
        }

        private boolean readTest(int row) {
            if (text.keyword == Text.RIGHT) {
                steps.how[row] = Text.RIGHT;
                text.advance();
                return text.takeVane(plan) && keepWhat(row);
            }
            return text.takeKeyword(Text.POINTS)
                    && text.takeVane(plan) && keepWhat(row)
                    && text.takeCompare() && keepHow(row)
                    && text.takeNumber(0, 60) && keepMuch(row);
        }

        private boolean keepWhat(int row) {
            steps.what[row] = text.taken;
            return true;
        }

        private boolean keepHow(int row) {
            steps.how[row] = text.taken;
            return true;
        }

        private boolean keepMuch(int row) {
            steps.much[row] = text.taken;
            return true;
        }
    }

    /** Turns the vanes of a state: by winds, or by hand. */
    private static final class Works {
        private Plan plan;
        private State state;
        /** The tooth that its wind asks of each vane, or NONE at calm. */
        final int[] wanted = new int[MOST_VANES];
        private final int[] step = new int[MOST_VANES];
        int moving;
        int teethMoved;
        int bells;
        private int soughtBell;
        int ringer;

        void use(Plan ofPlan, State ofState) {
            plan = ofPlan;
            state = ofState;
            teethMoved = 0;
            bells = 0;
            listenFor(NONE);
            aim();
        }

        void listenFor(int bell) {
            soughtBell = bell;
            ringer = NONE;
        }

        void blow(int place, int direction, int strong) {
            state.from[place] = direction;
            state.strong[place] = strong;
            aim();
        }

        void blowEverywhere(int direction, int strong) {
            state.blowEverywhere(direction, strong);
            aim();
        }

        private void aim() {
            for (int v = 0; v < plan.vanes; v++) {
                int teeth = plan.teeth[v];
                int place = plan.home[v];
                int tooth = (teeth * state.from[place] + DIRECTIONS / 2) / DIRECTIONS;
                if (state.strong[place] == 0) {
                    wanted[v] = NONE;
                } else {
                    wanted[v] = tooth >= teeth ? 0 : tooth;
                }
            }
        }

        boolean isRight(int vane) {
            return wanted[vane] == NONE || wanted[vane] == state.points[vane];
        }

        int rightSet() {
            int set = 0;
            for (int v = 0; v < plan.vanes; v++) {
                set = with(set, v, isRight(v));
            }
            return set;
        }

        private int gap(int vane, int tooth) {
            int apart = tooth < wanted[vane] ? wanted[vane] - tooth : tooth - wanted[vane];
            int roundAbout = plan.teeth[vane] - apart;
            return apart < roundAbout ? apart : roundAbout;
        }

        int gapNow(int vane) {
            return wanted[vane] == NONE ? 0 : gap(vane, state.points[vane]);
        }

        int shorterWay(int vane) {
            int right = wanted[vane] - state.points[vane];
            if (right < 0) {
                right += plan.teeth[vane];
            }
            return right <= plan.teeth[vane] - right ? 1 : -1;
        }

        private int toothBehindStep(int vane) {
            int tooth = state.points[vane] + step[vane];
            if (tooth < 0) {
                return plan.teeth[vane] - 1;
            }
            return tooth >= plan.teeth[vane] ? 0 : tooth;
        }

        /** What turns along as a vane turns by a tooth, as 'moving'; false if it is BLOCKED. */
        boolean engage(int vane, int tooth) {
            for (int v = 0; v < MOST_VANES; v++) {
                step[v] = 0;
            }
            step[vane] = tooth;
            moving = 1 << vane;
            int shaft = draggingShaft();
            for (int round = 0; round < MOST_VANES && shaft != NONE; round++) {
                int a = plan.first[shaft];
                int b = plan.second[shaft];
                int along = plan.sense[shaft] * (step[a] + step[b]);
                int other = step[a] == 0 ? a : b;
                step[other] = along;
                moving |= 1 << other;
                shaft = draggingShaft();
            }
            return (moving & state.held) == 0 && isAllPlayInBounds();
        }

        private int draggingShaft() {
            for (int s = 0; s < plan.shafts; s++) {
                boolean isOneAlone = (step[plan.first[s]] == 0) != (step[plan.second[s]] == 0);
                if (isOneAlone && !has(state.lifted, s) && !isInBounds(s, state.play[s] + playChange(s))) {
                    return s;
                }
            }
            return NONE;
        }

        private int playChange(int shaft) {
            return step[plan.first[shaft]] - plan.sense[shaft] * step[plan.second[shaft]];
        }

        private boolean isInBounds(int shaft, int play) {
            return play >= 0 && play <= plan.slack[shaft];
        }

        private boolean isAllPlayInBounds() {
            for (int s = 0; s < plan.shafts; s++) {
                if (!has(state.lifted, s) && !isInBounds(s, state.play[s] + playChange(s))) {
                    return false;
                }
            }
            return true;
        }

        private void move() {
            for (int s = 0; s < plan.shafts; s++) {
                if (!has(state.lifted, s)) {
                    state.play[s] += playChange(s);
                }
            }
            for (int v = 0; v < plan.vanes; v++) {
                if (has(moving, v)) {
                    moveVane(v);
                }
            }
        }

        private void moveVane(int vane) {
            state.points[vane] = toothBehindStep(vane);
            state.turned[vane]++;
            teethMoved++;
            if (state.points[vane] == 0) {
                state.struck[vane]++;
                if (bells == soughtBell) {
                    ringer = vane;
                }
                bells++;
            }
        }

        /** By how many teeth (1, 0 or -1) one that moves comes nearer to what it wants. */
        private int gain(int vane) {
            if (wanted[vane] == NONE) {
                return 0;
            }
            return gap(vane, state.points[vane]) - gap(vane, toothBehindStep(vane));
        }

        int comingNearer(int vane) {
            int set = 0;
            for (int v = 0; v < plan.vanes; v++) {
                if (v != vane && has(moving, v) && gain(v) > 0) {
                    set = with(set, v, true);
                }
            }
            return set;
        }

        int loadOf(int vane, int tooth) {
            return engage(vane, tooth) ? Integer.bitCount(moving) : 0;
        }

        /** Whether the winds turn a vane now; what then moves is 'moving'. */
        private boolean isDriven(int vane) {
            if (has(state.held, vane) || isRight(vane)) {
                return false;
            }
            return engage(vane, shorterWay(vane)) && force() > 0;
        }

        /** What is for it less what is against it: the one that drags always comes nearer itself. */
        private int force() {
            int force = 0;
            for (int v = 0; v < plan.vanes; v++) {
                if (has(moving, v)) {
                    force += gain(v) * state.strong[plan.home[v]] - plan.stiff[v];
                }
            }
            return force;
        }

        int firstDriven() {
            for (int v = 0; v < plan.vanes; v++) {
                if (isDriven(v)) {
                    return v;
                }
            }
            return NONE;
        }

        /**
         * So many quarters, or those ahead of the first in which nothing turns (all behind it are
         * like it): how many these are.
         */
        int goOn(int quarters) {
            for (int q = 0; q < quarters; q++) {
                int before = teethMoved;
                for (int v = 0; v < plan.vanes; v++) {
                    if (isDriven(v)) {
                        move();
                    }
                }
                if (teethMoved == before) {
                    return q;
                }
            }
            return quarters;
        }

        int turnByHand(int vane, int teeth) {
            int tooth = teeth < 0 ? -1 : 1;
            int many = Math.abs(teeth);
            for (int t = 0; t < many; t++) {
                if (!engage(vane, tooth)) {
                    return t;
                }
                move();
            }
            return many;
        }

        /** In how many quarters those of a set are wrong, all together. */
        int wrongQuarters(int set, int quarters) {
            int sum = 0;
            for (int q = 0; q < quarters; q++) {
                boolean isStill = goOn(1) == 0;
                int wrong = Integer.bitCount(set & ~rightSet());
                if (isStill) {
                    return sum + wrong * (quarters - q);
                }
                sum += wrong;
            }
            return sum;
        }
    }

    /** What hangs together by shafts that are not lifted. */
    private static final class Joins {
        private static final int FAR = 1000;

        private Plan plan;
        private int lifted;
        int found;
        /** Of those found: 1 if they turn as the first does, -1 if contrary. */
        final int[] side = new int[MOST_VANES];
        private final int[] queue = new int[MOST_VANES];
        private int queued;
        private final int[] slackTo = new int[MOST_VANES];

        void search(Plan ofPlan, int ofLifted, int from) {
            plan = ofPlan;
            lifted = ofLifted;
            found = 0;
            queued = 0;
            find(from, 1);
            for (int q = 0; q < queued; q++) {
                findFrom(queue[q]);
            }
        }

        private void find(int vane, int ofSide) {
            if (has(found, vane)) {
                return;
            }
            found = with(found, vane, true);
            side[vane] = ofSide;
            queue[queued] = vane;
            queued++;
        }

        private void findFrom(int vane) {
            for (int s = 0; s < plan.shafts; s++) {
                if (has(lifted, s)) {
                    continue;
                }
                int ofSide = side[vane] * plan.sense[s];
                if (plan.first[s] == vane) {
                    find(plan.second[s], ofSide);
                } else if (plan.second[s] == vane) {
                    find(plan.first[s], ofSide);
                }
            }
        }

        int lockedVanes(Plan ofPlan, int ofLifted) {
            int locked = 0;
            int seen = 0;
            for (int v = 0; v < ofPlan.vanes; v++) {
                if (has(seen, v)) {
                    continue;
                }
                search(ofPlan, ofLifted, v);
                seen |= found;
                if (turnsBothWays()) {
                    locked |= found;
                }
            }
            return locked;
        }

        private boolean turnsBothWays() {
            for (int s = 0; s < plan.shafts; s++) {
                int a = plan.first[s];
                int b = plan.second[s];
                if (!has(lifted, s) && has(found, a) && side[a] * plan.sense[s] != side[b]) {
                    return true;
                }
            }
            return false;
        }

        int leastSlack(Plan ofPlan, int ofLifted, int from, int to) {
            plan = ofPlan;
            lifted = ofLifted;
            for (int v = 0; v < MOST_VANES; v++) {
                slackTo[v] = FAR;
            }
            slackTo[from] = 0;
            for (int round = 0; round < MOST_VANES; round++) {
                spreadSlack();
            }
            return slackTo[to] == FAR ? NONE : slackTo[to];
        }

        private void spreadSlack() {
            for (int s = 0; s < plan.shafts; s++) {
                if (has(lifted, s)) {
                    continue;
                }
                int a = plan.first[s];
                int b = plan.second[s];
                slackTo[a] = Math.min(slackTo[a], slackTo[b] + plan.slack[s]);
                slackTo[b] = Math.min(slackTo[b], slackTo[a] + plan.slack[s]);
            }
        }

        int partingShafts(Plan ofPlan, int ofLifted) {
            int parting = 0;
            for (int s = 0; s < ofPlan.shafts; s++) {
                if (has(ofLifted, s)) {
                    continue;
                }
                search(ofPlan, with(ofLifted, s, true), ofPlan.first[s]);
                if (!has(found, ofPlan.second[s])) {
                    parting = with(parting, s, true);
                }
            }
            return parting;
        }
    }

    /** Carries ORDERS out on a copy, and keeps what the latest run() came to. */
    private static final class Runner {
        private static final int MOST_STEPS = 400;
        // Between two STEPS stand at most the 99 rounds of an empty loop and three ends.
        private static final int MOST_ROWS_DONE = 1000000;

        private final State state = new State();
        private Plan plan;
        private Steps steps;
        private Works works;
        private final int[] rounds = new int[Steps.MOST_ROWS];
        private int drawn;
        private int quarters;
        private boolean isCut;
        int done;
        boolean hasRun;
        final int[] latest = new int[5];
        int latestVanes;
        final int[] latestPoints = new int[MOST_VANES];

        /** Leaves the works on the copy, as it is at the end. */
        void carryOut(Town town, int seed, Works by) {
            state.copyFrom(town.state);
            plan = town.plan;
            steps = town.orders;
            works = by;
            works.use(plan, state);
            drawn = seed;
            quarters = 0;
            done = 0;
            isCut = false;
            int row = 0;
            for (int r = 0; r < MOST_ROWS_DONE && row < steps.rows; r++) {
                if (steps.kind[row] == Text.END) {
                    row = rowBehindEnd(row);
                } else if (done < MOST_STEPS) {
                    done++;
                    perform(row);
                    row = rowBehindStep(row);
                } else {
                    isCut = true;
                    row = steps.rows;
                }
            }
        }

        void report(Works by) {
            hasRun = true;
            latest[0] = quarters;
            latest[1] = by.teethMoved;
            latest[2] = by.bells;
            latest[3] = by.rightSet();
            latest[4] = isCut ? 1 : 0;
            latestVanes = plan.vanes;
            System.arraycopy(state.points, 0, latestPoints, 0, MOST_VANES);
        }

        private int rowBehindEnd(int row) {
            int beginning = steps.partner[row];
            if (steps.kind[beginning] == Text.LOOP && rounds[beginning] > 1) {
                rounds[beginning]--;
                return beginning + 1;
            }
            return row + 1;
        }

        private int rowBehindStep(int row) {
            if (steps.kind[row] == Text.STOP) {
                return steps.rows;
            }
            if (steps.kind[row] == Text.WHEN && !isSo(row)) {
                return steps.partner[row] + 1;
            }
            return row + 1;
        }

        private boolean isSo(int row) {
            int vane = steps.what[row];
            int points = state.points[vane];
            switch (steps.how[row]) {
                case '<':
                    return points < steps.much[row];
                case '>':
                    return points > steps.much[row];
                case '=':
                    return points == steps.much[row];
                default:
                    return works.isRight(vane);
            }
        }

        private void perform(int row) {
            int what = steps.what[row];
            int much = steps.much[row];
            switch (steps.kind[row]) {
                case Text.WIND:
                    works.blow(what, steps.how[row], much);
                    break;
                case Text.GUST:
                    drawWinds(much);
                    break;
                case Text.WAIT:
                    works.goOn(much);
                    quarters += much;
                    break;
                case Text.LIFT:
                case Text.LOWER:
                    state.lifted = with(state.lifted, what, steps.kind[row] == Text.LIFT);
                    break;
                case Text.HOLD:
                case Text.FREE:
                    state.held = with(state.held, what, steps.kind[row] == Text.HOLD);
                    break;
                case Text.TURN:
                    works.turnByHand(what, much);
                    break;
                case Text.LOOP:
                    rounds[row] = much;
                    break;
                default:
                    break;
            }
        }

        private void drawWinds(int strong) {
            for (int p = 0; p < plan.places; p++) {
                drawn = (drawn * 2683 + 11587) % 65536;
                works.blow(p, drawn / 8 % DIRECTIONS, strong);
            }
        }
    }
}
