import java.util.Arrays;

/**
 * Stations that hold goods, lines on which goods are under way for some ticks, and the questions
 * what can be at a goal, and how soon. The document's numbered promises say what each call does.
 */
public final class GoodsUnderWay {
    private static final int BEYOND = -1000000001;
    private static final int FULL = -1000000002;
    private static final int KIND = -1000000003;
    private static final int NONE = -1000000004;
    private static final int STATE = -1000000005;
    private static final int MISSING = -1000000006;
    private static final int SIZE = -1000000007;
    private static final int OVER = -1000000008;
    private static final int FINDINGS = 8;

    private static final int STATIONS = 6;
    private static final int LINES = 10;
    private static final int SHEETS = 4;
    private static final int ROW = 40;
    private static final int TAPE = 120;
    /** So many ticks are looked ahead, at most. */
    private static final int AHEAD = 24;
    private static final int LAST_TICK = 99999;
    /** More than any line takes (a BARGE: 15 at most), and a power of two. */
    private static final int RING = 16;
    private static final int STOCK_MOST = 999;
    private static final int STORE_MOST = 99;
    private static final int STORE_FIRST = 20;
    private static final int WIDTH_MOST = 99;
    private static final int LENGTH_MOST = 9;
    private static final int TIDE_MOST = 5;
    private static final int GAIN_MOST = 120;
    private static final int GREATEST = 2147483647;

    private static final int YARD = 0;
    private static final int SHED = 1;
    private static final int QUAY = 2;
    private static final int VAULT = 3;
    private static final int STATION_KINDS = 4;
    private static final int ROAD = 0;
    private static final int RAIL = 1;
    private static final int FERRY = 2;
    private static final int EXPRESS = 3;
    private static final int BARGE = 4;
    private static final int PASS = 5;
    private static final int LINE_KINDS = 6;
    /** For each kind the one that it is under; -1 for the highest. */
    private static final int[] STATION_UNDER = {-1, YARD, YARD, SHED};
    private static final int[] LINE_UNDER = {-1, ROAD, ROAD, RAIL, FERRY, ROAD};

    private final World world = new World();
    private final World kept = new World();
    /** Where things go in thought, so that the true world needs no taking back. */
    private final World thought = new World();
    private final Network network = new Network();
    private final Stream stream = new Stream();
    private final Tape tape = new Tape();
    private final Sheet[] sheets = new Sheet[SHEETS];
    private final int[] findings = new int[FINDINGS];
    private boolean isKept;

    public GoodsUnderWay() {
        for (int i = 0; i < SHEETS; i++) {
            sheets[i] = new Sheet();
        }
    }

    // ---- stations, lines

    public int station(int kind, int stock) {
        if (!isIn(kind, 0, STATION_KINDS - 1) || !isIn(stock, 0, STOCK_MOST)) {
            return found(BEYOND);
        }
        if (world.stations >= STATIONS) {
            return found(FULL);
        }
        return world.addStation(kind, stock);
    }

    public int line(int kind, int from, int to, int wide, int length) {
        if (!isIn(kind, 0, LINE_KINDS - 1) || !world.areTwo(from, to)
                || !isIn(wide, 0, WIDTH_MOST) || !isIn(length, 1, LENGTH_MOST)) {
            return found(BEYOND);
        }
        if (world.lines >= LINES) {
            return found(FULL);
        }
        int number = world.addLine(kind, from, to);
        world.line[number].width = wide;
        world.line[number].length = length;
        return number;
    }

    public int of(int station, int what) {
        if (!world.hasStation(station)) {
            return found(BEYOND);
        }
        Station it = world.station[station];
        switch (what) {
            case 0: return it.kind;
            case 1: return it.stock;
            case 2: return it.store;
            case 3: return it.holds(world.tick);
            case 4: return world.comingTo(station);
            default: return found(BEYOND);
        }
    }

    public int its(int line, int what) {
        if (!world.hasLine(line)) {
            return found(BEYOND);
        }
        Line it = world.line[line];
        switch (what) {
            case 8: return it.room(world.tick);
            case 9: return it.takes();
            case 10: return it.sent;
            case 11: return it.underWay();
            default: return isIn(what, 0, Line.SETTINGS - 1) ? it.setting(what) : found(BEYOND);
        }
    }

    public int set(int station, int what, int v) {
        if (!world.hasStation(station) || !isIn(what, 0, 2) || !isIn(v, 0, Station.greatest(what))) {
            return found(BEYOND);
        }
        return world.station[station].replace(what, v);
    }

    public int change(int line, int what, int v) {
        if (!world.hasLine(line) || !isIn(what, 0, Line.SETTINGS - 1)) {
            return found(BEYOND);
        }
        Line it = world.line[line];
        boolean fits;
        if (what == Line.FROM) {
            fits = world.areTwo(v, it.to);
        } else if (what == Line.TO) {
            fits = world.areTwo(it.from, v);
        } else {
            fits = isIn(v, Line.least(what), Line.greatest(what));
        }
        return fits ? it.replace(what, v) : found(BEYOND);
    }

    public int as(int line, int kind) {
        if (!world.hasLine(line) || !isIn(kind, 0, LINE_KINDS - 1)) {
            return found(BEYOND);
        }
        Line it = world.line[line];
        return isUnder(LINE_UNDER, it.kind, kind) ? it.width : found(KIND);
    }

    public int stands(int station, int kind) {
        if (!world.hasStation(station) || !isIn(kind, 0, STATION_KINDS - 1)) {
            return found(BEYOND);
        }
        Station it = world.station[station];
        return isUnder(STATION_UNDER, it.kind, kind) ? it.store : found(KIND);
    }

    // ---- ticks

    public int send(int line, int v) {
        if (!world.hasLine(line) || !isIn(v, 0, 9999)) {
            return found(BEYOND);
        }
        if (!world.dispatch(line, v)) {
            return found(STATE);
        }
        return world.station[world.line[line].from].stock;
    }

    public int go(int n) {
        if (!isIn(n, 1, 60)) {
            return found(BEYOND);
        }
        if (world.tick + n > LAST_TICK) {
            return found(STATE);
        }
        for (int i = 0; i < n; i++) {
            world.passTick();
        }
        return world.lost;
    }

    public int now(int what) {
        switch (what) {
            case 0: return world.tick;
            case 1: return world.allStock();
            case 2: return world.allUnderWay();
            case 3: return world.lost;
            case 4: return world.allSent();
            case 5: return world.allRoom();
            case 6: return world.losingStations();
            case 7: return world.openLines();
            default: return found(BEYOND);
        }
    }

    // ---- what can be

    public int most(int g, int n) {
        if (!isAsked(g, n)) {
            return found(BEYOND);
        }
        return mostIn(world, g, n);
    }

    public int quick(int g, int v) {
        if (!world.hasStation(g) || v < 0) {
            return found(BEYOND);
        }
        int ticks = ticksUntil(g, v);
        return ticks < 0 ? found(NONE) : ticks;
    }

    public int all(int g) {
        if (!world.hasStation(g)) {
            return found(BEYOND);
        }
        int ticks = ticksUntil(g, world.allGoods());
        return ticks < 0 ? found(NONE) : ticks;
    }

    public int near(int station, int g, int n) {
        if (!world.hasStation(station) || !isAsked(g, n)) {
            return found(BEYOND);
        }
        mostIn(world, g, n);
        network.searchNear();
        return network.ticksNear(station);
    }

    public int cost(int s, int g, int n) {
        int wrong = sheetFault(s);
        if (wrong != 0) {
            return found(wrong);
        }
        if (!isAsked(g, n)) {
            return found(BEYOND);
        }
        Sheet side = sheets[s];
        if (side.entry(g, n) <= n) {
            return found(STATE);
        }
        return world.costOutside(side, n) + world.costOfLines(side, n);
    }

    // ---- which way is best

    public int lose(int g, int n) {
        if (!isAsked(g, n)) {
            return found(BEYOND);
        }
        if (world.lines == 0) {
            return found(NONE);
        }
        int least = mostIn(world, g, n);
        int busy = network.busyLines();
        int best = 0;
        for (int i = 0; i < world.lines; i++) {
            // Without a line that carries nothing, MOST is as it is.
            if ((busy >> i & 1) != 0) {
                int without = mostHeld(i, 0, g, n);
                if (without < least) {
                    least = without;
                    best = i;
                }
            }
        }
        return best;
    }

    public int widen(int g, int n) {
        if (!isAsked(g, n)) {
            return found(BEYOND);
        }
        int greatest = mostIn(world, g, n);
        network.searchNear();
        int near = network.stationsNear();
        int best = -1;
        for (int i = 0; i < world.lines; i++) {
            // More room helps only where goods that are left over can come to the line.
            if ((near >> world.line[i].from & 1) != 0) {
                int with = mostWidened(i, g, n);
                if (with > greatest) {
                    greatest = with;
                    best = i;
                }
            }
        }
        return best < 0 ? found(NONE) : best;
    }

    public int held(int line, int g, int n) {
        if (!world.hasLine(line) || !isAsked(g, n)) {
            return found(BEYOND);
        }
        int whole = mostIn(world, g, n);
        int low = 0;
        int high = network.peak(line);
        for (int i = 0; i < 32 && low < high; i++) {
            int middle = (low + high) / 2;
            if (mostHeld(line, middle, g, n) == whole) {
                high = middle;
            } else {
                low = middle + 1;
            }
        }
        return high;
    }

    public int begin(int g, int n) {
        if (!isAsked(g, n)) {
            return found(BEYOND);
        }
        mostIn(world, g, n);
        for (int i = 0; i < world.stations; i++) {
            if (network.canStillSendFrom(i)) {
                return i;
            }
        }
        return found(NONE);
    }

    public int kind(int line, int g, int n) {
        if (!world.hasLine(line) || !isAsked(g, n)) {
            return found(BEYOND);
        }
        int best = 0;
        int greatest = -1;
        thought.become(world);
        for (int i = 0; i < LINE_KINDS; i++) {
            thought.line[line].kind = i;
            int with = mostIn(thought, g, n);
            if (with > greatest) {
                greatest = with;
                best = i;
            }
        }
        return best;
    }

    public int goal(int n) {
        if (!isIn(n, 0, AHEAD)) {
            return found(BEYOND);
        }
        int best = -1;
        int greatest = -1;
        for (int i = 0; i < world.stations; i++) {
            int here = mostIn(world, i, n);
            if (here > greatest) {
                greatest = here;
                best = i;
            }
        }
        return best < 0 ? found(NONE) : best;
    }

    // ---- what goes on for ever

    public int steady(int a, int b, int n) {
        if (!world.areTwo(a, b) || n < 0) {
            return found(BEYOND);
        }
        stream.solve(world, a, b);
        long goods = stream.behind(n);
        return goods > GREATEST ? found(OVER) : (int) goods;
    }

    public int rate(int a, int b) {
        if (!world.areTwo(a, b)) {
            return found(BEYOND);
        }
        stream.solve(world, a, b);
        return stream.rate;
    }

    public int gain(int a, int b, int d) {
        if (!world.areTwo(a, b) || !isIn(d, 0, GAIN_MOST)) {
            return found(BEYOND);
        }
        stream.solve(world, a, b);
        return stream.gains[d];
    }

    public int reach(int a, int b, int v) {
        if (!world.areTwo(a, b) || v < 0) {
            return found(BEYOND);
        }
        stream.solve(world, a, b);
        if (v > 0 && stream.rate == 0) {
            return found(NONE);
        }
        long ticks = stream.ticksUntil(v);
        return ticks > GREATEST ? found(OVER) : (int) ticks;
    }

    // ---- texts

    public int feed(int bytes, int n) {
        if (!isIn(n, 1, 4)) {
            return found(BEYOND);
        }
        if (tape.size + n > TAPE) {
            return found(FULL);
        }
        for (int i = n - 1; i >= 0; i--) {
            tape.add(bytes >> 8 * i & 255);
        }
        return tape.size;
    }

    public int wipe() {
        int had = tape.size;
        tape.size = 0;
        return had;
    }

    public int text() {
        thought.become(world);
        tape.start();
        int items = 0;
        boolean goesOn = true;
        for (int i = 0; i < TAPE && goesOn; i++) {
            tape.readItem(thought);
            items++;
            goesOn = tape.takeSign();
        }
        tape.size = 0;
        if (tape.fault >= 0) {
            return -1 - tape.fault;
        }
        world.become(thought);
        return items;
    }

    // ---- sheets

    public int sheet(int s, int bits, int n) {
        if (!isIn(s, 0, SHEETS - 1) || !Sheet.hasBits(bits)) {
            return found(BEYOND);
        }
        if (bits == 0) {
            sheets[s].renew(0, 0);
            return 0;
        }
        if (n < 0) {
            return found(SIZE);
        }
        if (n > ROW) {
            return found(BEYOND);
        }
        sheets[s].renew(bits, n);
        return n;
    }

    public long write(int s, int i, long v) {
        int wrong = sheetFault(s);
        if (wrong != 0) {
            return found(wrong);
        }
        Sheet it = sheets[s];
        if (!isIn(i, 0, it.size - 1)) {
            return found(BEYOND);
        }
        long was = it.row[i];
        it.put(i, v);
        return was;
    }

    public int copy(int s, int from, int t, int to, int n) {
        if (!isIn(s, 0, SHEETS - 1) || !isIn(t, 0, SHEETS - 1)) {
            return found(BEYOND);
        }
        Sheet source = sheets[s];
        Sheet target = sheets[t];
        if (source.bits == 0 || target.bits == 0) {
            return found(MISSING);
        }
        if (source.bits != target.bits) {
            return found(KIND);
        }
        if (!source.hasPart(from, n) || !target.hasPart(to, n)) {
            return found(BEYOND);
        }
        System.arraycopy(source.row, from, target.row, to, n);
        return n;
    }

    public int lays(int s) {
        int wrong = sheetFault(s);
        if (wrong != 0) {
            return found(wrong);
        }
        Sheet it = sheets[s];
        int came = 0;
        for (int i = 0; i < it.size && i < world.stations; i++) {
            long v = it.row[i];
            if (v >= 0 && v <= STOCK_MOST) {
                world.station[i].stock = (int) v;
                came++;
            }
        }
        return came;
    }

    public int book(int s, int g) {
        int wrong = sheetFault(s);
        if (wrong != 0) {
            return found(wrong);
        }
        if (!world.hasStation(g)) {
            return found(BEYOND);
        }
        Sheet it = sheets[s];
        int entries = Math.min(it.size, AHEAD + 1);
        network.open(world, g);
        for (int i = 0; i < entries; i++) {
            it.put(i, network.flowBehind(i));
        }
        return entries;
    }

    public int replay(int s, int g, int n) {
        int wrong = planFault(s, g, n);
        if (wrong != 0) {
            return found(wrong);
        }
        return follow(s, g, n);
    }

    public int run(int s, int g, int n) {
        int wrong = planFault(s, g, n);
        if (wrong != 0) {
            return found(wrong);
        }
        if (world.tick + n > LAST_TICK) {
            return found(STATE);
        }
        int answer = follow(s, g, n);
        if (answer >= 0) {
            world.become(thought);
        }
        return answer;
    }

    // ---- images

    public int image() {
        kept.become(world);
        isKept = true;
        return 1;
    }

    public int undo() {
        if (!isKept) {
            return found(NONE);
        }
        world.become(kept);
        return world.tick;
    }

    public int tear() {
        int was = isKept ? 1 : 0;
        isKept = false;
        return was;
    }

    public int count(int what) {
        switch (what) {
            case 0: return world.tick;
            case 1: return world.stations;
            case 2: return world.lines;
            case 3: return world.lost;
            case 4: return world.allGoods();
            case 5: return tape.size;
            default: return found(BEYOND);
        }
    }

    public int status(int which) {
        if (!isIn(which, -1, FINDINGS - 1)) {
            return found(BEYOND);
        }
        if (which >= 0) {
            return findings[which];
        }
        int sum = 0;
        for (int i = 0; i < FINDINGS; i++) {
            sum += findings[i];
        }
        return sum;
    }

    // ---- what several calls use

    /** Every finding is answered through here, so that none is left uncounted. */
    private int found(int finding) {
        int which = BEYOND - finding;
        if (isIn(which, 0, FINDINGS - 1)) {
            findings[which]++;
        }
        return finding;
    }

    private static boolean isIn(int v, int low, int high) {
        return v >= low && v <= high;
    }

    private static boolean isUnder(int[] under, int kind, int wanted) {
        int at = kind;
        for (int i = 0; i < under.length && isIn(at, 0, under.length - 1); i++) {
            if (at == wanted) {
                return true;
            }
            at = under[at];
        }
        return false;
    }

    private boolean isAsked(int g, int n) {
        return world.hasStation(g) && isIn(n, 0, AHEAD);
    }

    /** The finding that a sheet to be used gives; 0 if none. */
    private int sheetFault(int s) {
        if (!isIn(s, 0, SHEETS - 1)) {
            return BEYOND;
        }
        return sheets[s].bits == 0 ? MISSING : 0;
    }

    private int planFault(int s, int g, int n) {
        int wrong = sheetFault(s);
        if (wrong != 0) {
            return wrong;
        }
        return isAsked(g, n) ? 0 : BEYOND;
    }

    /** Follows a plan in thought: stock of g then, or what a plan that fails answers. */
    private int follow(int s, int g, int n) {
        thought.become(world);
        int failed = thought.follow(sheets[s], n);
        return failed >= 0 ? -1 - failed : thought.station[g].stock;
    }

    private int mostIn(World in, int g, int n) {
        network.open(in, g);
        return network.flowBehind(n);
    }

    private int mostHeld(int line, int room, int g, int n) {
        network.open(world, g);
        network.hold(line, room);
        return network.flowBehind(n);
    }

    private int mostWidened(int line, int g, int n) {
        thought.become(world);
        thought.line[line].width++;
        thought.line[line].later++;
        return mostIn(thought, g, n);
    }

    private int ticksUntil(int g, int goods) {
        network.open(world, g);
        for (int n = 0; n <= AHEAD; n++) {
            if (network.flowBehind(n) >= goods) {
                return n;
            }
        }
        return -1;
    }

    static final class Station {
        int kind;
        int stock;
        int store;

        void become(Station other) {
            kind = other.kind;
            stock = other.stock;
            store = other.store;
        }

        int holds(int t) {
            switch (kind) {
                case SHED: return store;
                case QUAY: return t % 2 == 0 ? LAST_TICK : store;
                case VAULT: return t % 3 == 0 ? store + 10 : store;
                default: return LAST_TICK;
            }
        }

        static int greatest(int what) {
            switch (what) {
                case 0: return STATION_KINDS - 1;
                case 1: return STOCK_MOST;
                default: return STORE_MOST;
            }
        }

        int replace(int what, int v) {
            int was;
            switch (what) {
                case 0: was = kind; kind = v; break;
                case 1: was = stock; stock = v; break;
                default: was = store; store = v; break;
            }
            return was;
        }
    }

    static final class Line {
        static final int FROM = 1;
        static final int TO = 2;
        static final int SETTINGS = 8;

        int kind;
        int from;
        int to;
        int width;
        int length;
        int tide;
        int later;
        int shift;
        int sent;
        /** Goods under way, each at the place of the tick at which they come. */
        final int[] way = new int[RING];

        void become(Line other) {
            kind = other.kind;
            from = other.from;
            to = other.to;
            width = other.width;
            length = other.length;
            tide = other.tide;
            later = other.later;
            shift = other.shift;
            sent = other.sent;
            System.arraycopy(other.way, 0, way, 0, RING);
        }

        int room(int t) {
            int road = t >= shift ? later : width;
            int rail = t % 2 == 0 ? road : 0;
            int ferry = t % 6 < tide ? 0 : road;
            switch (kind) {
                case RAIL: return rail;
                case EXPRESS: return rail / 2;
                case FERRY: return ferry;
                case BARGE: return 3 * ferry;
                case PASS: return length > 4 ? 2 * road : road;
                default: return road;
            }
        }

        int takes() {
            switch (kind) {
                case RAIL: return Math.max(1, length / 2);
                case EXPRESS: return 1;
                case FERRY: return length + 1;
                case BARGE: return length + 1 + tide;
                default: return length;
            }
        }

        int underWay() {
            int sum = 0;
            for (int i = 0; i < RING; i++) {
                sum += way[i];
            }
            return sum;
        }

        int setting(int what) {
            switch (what) {
                case 0: return kind;
                case FROM: return from;
                case TO: return to;
                case 3: return width;
                case 4: return length;
                case 5: return tide;
                case 6: return later;
                default: return shift;
            }
        }

        static int least(int what) {
            return what == 4 ? 1 : 0;
        }

        static int greatest(int what) {
            switch (what) {
                case 0: return LINE_KINDS - 1;
                case 4: return LENGTH_MOST;
                case 5: return TIDE_MOST;
                case 7: return LAST_TICK;
                default: return WIDTH_MOST;
            }
        }

        int replace(int what, int v) {
            int was = setting(what);
            switch (what) {
                case 0: kind = v; break;
                case FROM: from = v; break;
                case TO: to = v; break;
                case 3: width = v; break;
                case 4: length = v; break;
                case 5: tide = v; break;
                case 6: later = v; break;
                default: shift = v; break;
            }
            return was;
        }
    }

    /** All that an image keeps. */
    static final class World {
        int tick;
        int lost;
        int stations;
        int lines;
        final Station[] station = new Station[STATIONS];
        final Line[] line = new Line[LINES];

        World() {
            for (int i = 0; i < STATIONS; i++) {
                station[i] = new Station();
            }
            for (int i = 0; i < LINES; i++) {
                line[i] = new Line();
            }
        }

        void become(World other) {
            tick = other.tick;
            lost = other.lost;
            stations = other.stations;
            lines = other.lines;
            for (int i = 0; i < stations; i++) {
                station[i].become(other.station[i]);
            }
            for (int i = 0; i < lines; i++) {
                line[i].become(other.line[i]);
            }
        }

        boolean hasStation(int s) {
            return isIn(s, 0, stations - 1);
        }

        boolean hasLine(int l) {
            return isIn(l, 0, lines - 1);
        }

        boolean areTwo(int a, int b) {
            return hasStation(a) && hasStation(b) && a != b;
        }

        /** The caller has seen that there is room for one more. */
        int addStation(int kind, int stock) {
            Station it = station[stations];
            it.kind = kind;
            it.stock = stock;
            it.store = STORE_FIRST;
            stations++;
            return stations - 1;
        }

        /** The caller has seen that there is room for one more; its width and length it sets. */
        int addLine(int kind, int from, int to) {
            Line it = line[lines];
            it.kind = kind;
            it.from = from;
            it.to = to;
            it.tide = 0;
            it.later = 0;
            it.shift = LAST_TICK;
            it.sent = 0;
            // An undone line may have left goods at this number.
            Arrays.fill(it.way, 0);
            lines++;
            return lines - 1;
        }

        /** Sends, if that can be; line and amount come from plans, too, so they may be anything. */
        boolean dispatch(long number, long amount) {
            if (number < 0 || number >= lines || amount < 0) {
                return false;
            }
            Line it = line[(int) number];
            Station start = station[it.from];
            if (amount > start.stock || it.sent + amount > it.room(tick)) {
                return false;
            }
            start.stock -= (int) amount;
            it.sent += (int) amount;
            it.way[(tick + it.takes()) % RING] += (int) amount;
            return true;
        }

        void passTick() {
            for (int i = 0; i < stations; i++) {
                int over = station[i].stock - station[i].holds(tick);
                if (over > 0) {
                    lost += over;
                    station[i].stock -= over;
                }
            }
            tick++;
            int place = tick % RING;
            for (int i = 0; i < lines; i++) {
                Line it = line[i];
                it.sent = 0;
                station[it.to].stock += it.way[place];
                it.way[place] = 0;
            }
        }

        /** Goes so many ticks by a plan: the number of the three that fails, -1 if none does. */
        int follow(Sheet plan, int n) {
            int threes = plan.size / 3;
            for (int ahead = 0; ahead < n; ahead++) {
                for (int i = 0; i < threes; i++) {
                    boolean isDue = plan.row[3 * i + 1] == ahead;
                    if (isDue && !dispatch(plan.row[3 * i], plan.row[3 * i + 2])) {
                        return i;
                    }
                }
                passTick();
            }
            return -1;
        }

        int allStock() {
            int sum = 0;
            for (int i = 0; i < stations; i++) {
                sum += station[i].stock;
            }
            return sum;
        }

        int allUnderWay() {
            int sum = 0;
            for (int i = 0; i < lines; i++) {
                sum += line[i].underWay();
            }
            return sum;
        }

        int allGoods() {
            return allStock() + allUnderWay();
        }

        int allSent() {
            int sum = 0;
            for (int i = 0; i < lines; i++) {
                sum += line[i].sent;
            }
            return sum;
        }

        int allRoom() {
            int sum = 0;
            for (int i = 0; i < lines; i++) {
                sum += line[i].room(tick);
            }
            return sum;
        }

        int losingStations() {
            int bits = 0;
            for (int i = 0; i < stations; i++) {
                if (station[i].stock > station[i].holds(tick)) {
                    bits |= 1 << i;
                }
            }
            return bits;
        }

        int openLines() {
            int bits = 0;
            for (int i = 0; i < lines; i++) {
                Line it = line[i];
                if (station[it.from].stock >= 1 && it.sent + 1 <= it.room(tick)) {
                    bits |= 1 << i;
                }
            }
            return bits;
        }

        int comingTo(int s) {
            int sum = 0;
            for (int i = 0; i < lines; i++) {
                if (line[i].to == s) {
                    sum += line[i].underWay();
                }
            }
            return sum;
        }

        /** What comes to a station so many ticks ahead; 0 ahead it is what is there. */
        int supply(int s, int ahead) {
            if (ahead == 0) {
                return station[s].stock;
            }
            int sum = 0;
            // Nothing is under way for as long as the ring goes round.
            for (int i = 0; i < lines && ahead < RING; i++) {
                if (line[i].to == s) {
                    sum += line[i].way[(tick + ahead) % RING];
                }
            }
            return sum;
        }

        /** Room as it counts in thought, with the line's room held to at most so much. */
        int roomAhead(int l, int ahead, int most) {
            int room = Math.min(line[l].room(tick + ahead), most);
            return ahead == 0 ? Math.max(0, room - line[l].sent) : room;
        }

        /** What is at, or comes to, pairs that aren't in the side. */
        int costOutside(Sheet side, int n) {
            int sum = 0;
            for (int i = 0; i < stations; i++) {
                int entry = side.entry(i, n);
                for (int k = 0; k <= n && k < entry; k++) {
                    sum += supply(i, k);
                }
            }
            return sum;
        }

        /** Lines that lead out of the side. What stays never does: each station is in to the end. */
        int costOfLines(Sheet side, int n) {
            int sum = 0;
            for (int i = 0; i < lines; i++) {
                int takes = line[i].takes();
                // Earlier pairs of the line's end are outside; n + 1 if all are, so none comes too late.
                int entry = side.entry(line[i].to, n);
                for (int k = side.entry(line[i].from, n); k + takes < entry; k++) {
                    sum += roomAhead(i, k, GREATEST);
                }
            }
            return sum;
        }
    }

    /**
     * The pairs of stations and ticks as nodes, with all pairs of the goal as one sink, and the
     * greatest flow to it (by levels and blocking flows). Ticks can be added behind, and the flow
     * goes on from what it was: what could be by then still can.
     */
    static final class Network {
        static final int SINK = STATIONS * (AHEAD + 1);
        static final int SOURCE = SINK + 1;
        static final int NODES = SINK + 2;
        /** Staying, lines (none comes in the first tick), goods; each with its way back. */
        static final int ARCS = 2 * (STATIONS * AHEAD + LINES * AHEAD + STATIONS * (AHEAD + 1));
        /** Far above the steps of a blocking flow: each arc is filled once, by a way of all nodes. */
        static final int STEPS = 1000000;

        World world;
        int goal;
        int heldLine;
        int heldTo;
        int ticks;
        int flow;
        int arcs;
        final int[] first = new int[NODES];
        final int[] next = new int[ARCS];
        final int[] into = new int[ARCS];
        final int[] left = new int[ARCS];
        /** The line to which an arc and its way back belong; -1 if none. */
        final int[] owner = new int[ARCS / 2];
        /** How many arcs a node is from the sink; -1 if it can't come there any more. */
        final int[] level = new int[NODES];
        final int[] turn = new int[NODES];
        final int[] path = new int[NODES];
        final int[] queue = new int[NODES];
        /** 1 for a node to which goods that are left over can come, else 0. */
        final int[] near = new int[NODES];

        void open(World in, int g) {
            world = in;
            goal = g;
            heldLine = -1;
            heldTo = 0;
            ticks = 0;
            flow = 0;
            arcs = 0;
            Arrays.fill(first, -1);
        }

        void hold(int line, int room) {
            heldLine = line;
            heldTo = room;
        }

        int flowBehind(int n) {
            for (int k = ticks; k <= n && k <= AHEAD; k++) {
                addTick(k);
            }
            ticks = Math.max(ticks, n + 1);
            for (int i = 0; i < NODES && findLevels(); i++) {
                fill();
            }
            return flow;
        }

        private int node(int s, int k) {
            return s == goal ? SINK : k * STATIONS + s;
        }

        private void addTick(int k) {
            for (int i = 0; i < world.stations; i++) {
                int goods = world.supply(i, k);
                if (i == goal) {
                    flow += goods;
                } else {
                    addArc(SOURCE, node(i, k), goods, -1);
                    if (k > 0) {
                        addArc(node(i, k - 1), node(i, k), world.station[i].holds(world.tick + k - 1), -1);
                    }
                }
            }
            for (int i = 0; i < world.lines; i++) {
                Line line = world.line[i];
                int leaves = k - line.takes();
                if (leaves >= 0 && line.from != goal) {
                    int most = i == heldLine ? heldTo : GREATEST;
                    addArc(node(line.from, leaves), node(line.to, k), world.roomAhead(i, leaves, most), i);
                }
            }
        }

        private void addArc(int from, int to, int room, int line) {
            if (room <= 0 || arcs + 2 > ARCS) {
                return;
            }
            owner[arcs / 2] = line;
            putArc(from, to, room);
            putArc(to, from, 0);
        }

        private void putArc(int from, int to, int room) {
            into[arcs] = to;
            left[arcs] = room;
            next[arcs] = first[from];
            first[from] = arcs;
            arcs++;
        }

        /** Searches back from the sink; the way back of an arc leads to where the arc comes from. */
        private boolean findLevels() {
            Arrays.fill(level, -1);
            level[SINK] = 0;
            queue[0] = SINK;
            int filled = 1;
            for (int i = 0; i < filled && i < NODES && level[SOURCE] < 0; i++) {
                int at = queue[i];
                int arc = first[at];
                for (int j = 0; j < ARCS && arc >= 0; j++) {
                    int from = into[arc];
                    if (left[arc ^ 1] > 0 && level[from] < 0) {
                        level[from] = level[at] + 1;
                        queue[filled] = from;
                        filled++;
                    }
                    arc = next[arc];
                }
            }
            return level[SOURCE] >= 0;
        }

        /** Fills ways that go down a level with each arc, until none is left. */
        private void fill() {
            System.arraycopy(first, 0, turn, 0, NODES);
            int depth = 0;
            int at = SOURCE;
            for (int i = 0; i < STEPS; i++) {
                if (at == SINK) {
                    depth = push(depth);
                    at = into[path[depth] ^ 1];
                }
                int arc = nextDown(at);
                if (arc >= 0) {
                    path[depth] = arc;
                    depth++;
                    at = into[arc];
                } else if (depth > 0) {
                    level[at] = -1;
                    depth--;
                    at = into[path[depth] ^ 1];
                } else {
                    return;
                }
            }
        }

        private int nextDown(int at) {
            int arc = turn[at];
            for (int i = 0; i < ARCS && arc >= 0 && !leadsDown(at, arc); i++) {
                arc = next[arc];
            }
            turn[at] = arc;
            return arc;
        }

        private boolean leadsDown(int at, int arc) {
            return left[arc] > 0 && level[into[arc]] == level[at] - 1;
        }

        /** Sends what the path can carry: where on it the first arc is that is full then. */
        private int push(int depth) {
            int goods = GREATEST;
            for (int i = 0; i < depth; i++) {
                goods = Math.min(goods, left[path[i]]);
            }
            int full = 0;
            for (int i = depth - 1; i >= 0; i--) {
                left[path[i]] -= goods;
                left[path[i] ^ 1] += goods;
                if (left[path[i]] == 0) {
                    full = i;
                }
            }
            flow += goods;
            return full;
        }

        void searchNear() {
            Arrays.fill(near, 0);
            near[SOURCE] = 1;
            queue[0] = SOURCE;
            int filled = 1;
            for (int i = 0; i < filled && i < NODES; i++) {
                int arc = first[queue[i]];
                for (int j = 0; j < ARCS && arc >= 0; j++) {
                    int to = into[arc];
                    if (left[arc] > 0 && near[to] == 0) {
                        near[to] = 1;
                        queue[filled] = to;
                        filled++;
                    }
                    arc = next[arc];
                }
            }
        }

        /** Behind searchNear(). */
        int ticksNear(int s) {
            int bits = 0;
            for (int k = 0; k < ticks; k++) {
                if (near[node(s, k)] != 0) {
                    bits |= 1 << k;
                }
            }
            return bits;
        }

        /** Behind searchNear(). */
        int stationsNear() {
            int bits = 0;
            for (int i = 0; i < world.stations; i++) {
                if (ticksNear(i) != 0) {
                    bits |= 1 << i;
                }
            }
            return bits;
        }

        /** The last search back from the sink, which found no way, came to all that still can send. */
        boolean canStillSendFrom(int s) {
            return level[node(s, 0)] >= 0;
        }

        int busyLines() {
            int bits = 0;
            for (int i = 0; i < world.lines; i++) {
                if (peak(i) > 0) {
                    bits |= 1 << i;
                }
            }
            return bits;
        }

        /** The room that a line needs, at most, for this flow (with what was sent already). */
        int peak(int line) {
            int greatest = 0;
            for (int arc = 0; arc < arcs; arc += 2) {
                int goods = left[arc + 1];
                if (owner[arc / 2] == line && goods > 0) {
                    boolean isNow = into[arc + 1] < STATIONS;
                    greatest = Math.max(greatest, isNow ? goods + world.line[line].sent : goods);
                }
            }
            return greatest;
        }
    }

    /**
     * The flow that goes on for ever: by ways that each take the fewest ticks (goods on lines may be
     * turned away again), since a way on which so much goes, and that takes so many ticks, brings
     * that much with each tick from then on.
     */
    static final class Stream {
        static final int FAR = 1000000;
        static final int ROUNDS = 1000000;

        World world;
        /** With each number of ticks: how much more comes from then on. */
        final int[] gains = new int[GAIN_MOST + 1];
        int rate;
        final int[] left = new int[LINES];
        final int[] used = new int[LINES];
        final int[] ticks = new int[STATIONS];
        /** Twice the line by which a station is best come to, and one more if against its way. */
        final int[] by = new int[STATIONS];

        void solve(World in, int a, int b) {
            world = in;
            rate = 0;
            Arrays.fill(gains, 0);
            for (int i = 0; i < world.lines; i++) {
                left[i] = world.line[i].room(world.tick);
                used[i] = 0;
            }
            for (int i = 0; i < ROUNDS && findQuickest(a, b); i++) {
                int goods = narrowest(a, b);
                push(a, b, goods);
                rate += goods;
                if (isIn(ticks[b], 0, GAIN_MOST)) {
                    gains[ticks[b]] += goods;
                }
            }
        }

        private boolean findQuickest(int a, int b) {
            Arrays.fill(ticks, FAR);
            Arrays.fill(by, -1);
            ticks[a] = 0;
            boolean isBetter = true;
            for (int i = 0; i < STATIONS && isBetter; i++) {
                isBetter = false;
                for (int step = 0; step < 2 * world.lines; step++) {
                    if (improve(step)) {
                        isBetter = true;
                    }
                }
            }
            return ticks[b] < FAR;
        }

        private boolean improve(int step) {
            int start = ticks[tail(step)];
            if (start == FAR || room(step) == 0) {
                return false;
            }
            int takes = world.line[step / 2].takes();
            int then = step % 2 == 0 ? start + takes : start - takes;
            if (then >= ticks[head(step)]) {
                return false;
            }
            ticks[head(step)] = then;
            by[head(step)] = step;
            return true;
        }

        private int tail(int step) {
            return step % 2 == 0 ? world.line[step / 2].from : world.line[step / 2].to;
        }

        private int head(int step) {
            return tail(step ^ 1);
        }

        private int room(int step) {
            return step % 2 == 0 ? left[step / 2] : used[step / 2];
        }

        private int narrowest(int a, int b) {
            int goods = GREATEST;
            int at = b;
            for (int i = 0; i < STATIONS && at != a && by[at] >= 0; i++) {
                goods = Math.min(goods, room(by[at]));
                at = tail(by[at]);
            }
            return goods;
        }

        private void push(int a, int b, int goods) {
            int at = b;
            for (int i = 0; i < STATIONS && at != a && by[at] >= 0; i++) {
                int step = by[at];
                int change = step % 2 == 0 ? goods : -goods;
                left[step / 2] -= change;
                used[step / 2] += change;
                at = tail(step);
            }
        }

        long behind(long n) {
            long sum = 0;
            for (int i = 0; i < gains.length && i <= n; i++) {
                sum += gains[i] * (n + 1 - i);
            }
            return sum;
        }

        /** At most v and what the slowest way takes, since with each tick one comes, at least. */
        long ticksUntil(int v) {
            long low = 0;
            long high = v == 0 ? 0 : (long) v + GAIN_MOST;
            for (int i = 0; i < 64 && low < high; i++) {
                long middle = (low + high) / 2;
                if (behind(middle) >= v) {
                    high = middle;
                } else {
                    low = middle + 1;
                }
            }
            return high;
        }
    }

    /** The tape, and how a text is read from it, token by token. */
    static final class Tape {
        static final int END = 0;
        static final int WORD = 1;
        static final int NUMBER = 2;
        static final int SIGN = 3;
        static final int OTHER = 4;
        static final int NUMBER_MOST = 999;

        final int[] bytes = new int[TAPE];
        int size;
        /** The place of the first token that can't stand where it does; -1 while there is none. */
        int fault;
        int sort;
        int place;
        int behind;
        int value;

        /** The caller has seen that there is room. */
        void add(int b) {
            bytes[size] = b;
            size++;
        }

        void start() {
            fault = -1;
            behind = 0;
            readToken();
        }

        /** Whether another item has to follow. */
        boolean takeSign() {
            if (fault >= 0 || sort == END) {
                return false;
            }
            if (sort != SIGN) {
                fail();
                return false;
            }
            readToken();
            return true;
        }

        private void fail() {
            if (fault < 0) {
                fault = place;
            }
        }

        private void readToken() {
            while (behind < size && bytes[behind] == ' ') {
                behind++;
            }
            place = behind;
            sort = END;
            if (behind < size) {
                sort = sortOf(bytes[behind]);
                behind++;
            }
            if (sort == WORD || sort == NUMBER) {
                while (behind < size && sortOf(bytes[behind]) == sort) {
                    behind++;
                }
            }
            if (sort == NUMBER) {
                value = valueOfToken();
            }
        }

        private static int sortOf(int b) {
            if (b >= 'a' && b <= 'z') {
                return WORD;
            }
            if (b >= '0' && b <= '9') {
                return NUMBER;
            }
            return b == ';' ? SIGN : OTHER;
        }

        /** Held to one above the greatest number, so that many digits don't wrap around. */
        private int valueOfToken() {
            int v = 0;
            for (int i = place; i < behind; i++) {
                v = 10 * v + bytes[i] - '0';
                if (v > NUMBER_MOST) {
                    return NUMBER_MOST + 1;
                }
            }
            return v;
        }

        private boolean isWord(String word) {
            if (sort != WORD || behind - place != word.length()) {
                return false;
            }
            for (int i = 0; i < word.length(); i++) {
                if (bytes[place + i] != word.charAt(i)) {
                    return false;
                }
            }
            return true;
        }

        private boolean takeWord(String word) {
            boolean is = fault < 0 && isWord(word);
            if (is) {
                readToken();
            }
            return is;
        }

        private int takeNumber(int low, int high) {
            if (fault >= 0 || sort != NUMBER || !isIn(value, low, high)) {
                fail();
                return low;
            }
            int taken = value;
            readToken();
            return taken;
        }

        /** A number behind a word, if that stands there; else what goes without. */
        private int takeOption(String word, int low, int high, int without) {
            return takeWord(word) ? takeNumber(low, high) : without;
        }

        private int stationKind() {
            if (isWord("yard")) {
                return YARD;
            }
            if (isWord("shed")) {
                return SHED;
            }
            if (isWord("quay")) {
                return QUAY;
            }
            return isWord("vault") ? VAULT : -1;
        }

        private int lineKind() {
            if (isWord("road")) {
                return ROAD;
            }
            if (isWord("rail")) {
                return RAIL;
            }
            if (isWord("ferry")) {
                return FERRY;
            }
            if (isWord("express")) {
                return EXPRESS;
            }
            if (isWord("barge")) {
                return BARGE;
            }
            return isWord("pass") ? PASS : -1;
        }

        /** With a fault the world is to be thrown away. */
        void readItem(World world) {
            int station = stationKind();
            int line = lineKind();
            if (station >= 0 && world.stations < STATIONS) {
                readToken();
                readStation(world, station);
            } else if (line >= 0 && world.lines < LINES) {
                readToken();
                readLine(world, line);
            } else {
                fail();
            }
        }

        private void readStation(World world, int kind) {
            int stock = takeOption("stock", 0, STOCK_MOST, 0);
            int store = takeOption("store", 0, STORE_MOST, STORE_FIRST);
            world.station[world.addStation(kind, stock)].store = store;
        }

        private void readLine(World world, int kind) {
            int last = world.stations - 1;
            int from = takeNumber(0, last);
            if (sort == NUMBER && value == from) {
                fail();
            }
            int to = takeNumber(0, last);
            if (fault >= 0) {
                return;
            }
            Line it = world.line[world.addLine(kind, from, to)];
            it.width = takeOption("wide", 0, WIDTH_MOST, 10);
            it.length = takeOption("long", 1, LENGTH_MOST, 1);
            it.tide = takeOption("tide", 0, TIDE_MOST, 0);
            if (takeWord("later")) {
                it.later = takeNumber(0, WIDTH_MOST);
                it.shift = takeNumber(0, NUMBER_MOST);
            }
        }
    }

    static final class Sheet {
        final long[] row = new long[ROW];
        /** 0 while it is missing. */
        int bits;
        int size;

        static boolean hasBits(int b) {
            return b == 0 || b == 16 || b == 32 || b == 64;
        }

        void renew(int b, int n) {
            bits = b;
            size = n;
            Arrays.fill(row, 0L);
        }

        void put(int i, long v) {
            row[i] = bits == 16 ? (short) v : bits == 32 ? (int) v : v;
        }

        boolean hasPart(int start, int n) {
            return start >= 0 && n >= 0 && (long) start + n <= size;
        }

        /** How many ticks ahead a station comes into the side that is told here; n + 1: never. */
        int entry(int s, int n) {
            if (s >= size || row[s] < 0 || row[s] > n) {
                return n + 1;
            }
            return (int) row[s];
        }
    }
}
