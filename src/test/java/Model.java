import java.util.ArrayDeque;
import java.util.ArrayList;
import java.util.Arrays;
import java.util.List;
import java.util.Map;
import java.util.function.IntBinaryOperator;

/**
 * The document once more, as plainly as can be and without care for speed: what is asked for is
 * worked out by its definition wherever that can be done, not by the ways of the program.
 */
final class Model {
    static final int BEYOND = -1000000001;
    static final int FULL = -1000000002;
    static final int KIND = -1000000003;
    static final int NONE = -1000000004;
    static final int STATE = -1000000005;
    static final int MISSING = -1000000006;
    static final int SIZE = -1000000007;
    static final int OVER = -1000000008;
    static final int ENDLESS = 1 << 30;

    record Parcel(int line, int tick, int goods) { }

    static final class Place {
        int kind;
        int stock;
        int store = 20;

        int holds(int t) {
            if (kind == 1) {
                return store;
            }
            if (kind == 2) {
                return t % 2 == 0 ? 99999 : store;
            }
            if (kind == 3) {
                return store + (t % 3 == 0 ? 10 : 0);
            }
            return 99999;
        }

        Place twin() {
            Place p = new Place();
            p.kind = kind;
            p.stock = stock;
            p.store = store;
            return p;
        }
    }

    static final class Way {
        int[] told = {0, 0, 0, 0, 1, 0, 0, 99999};
        int sent;

        int road(int t) {
            return t >= told[7] ? told[6] : told[3];
        }

        int room(int t) {
            switch (told[0]) {
                case 1:
                    return t % 2 == 1 ? 0 : road(t);
                case 2:
                    return t % 6 < told[5] ? 0 : road(t);
                case 3:
                    return (t % 2 == 1 ? 0 : road(t)) / 2;
                case 4:
                    return (t % 6 < told[5] ? 0 : road(t)) * 3;
                case 5:
                    return told[4] > 4 ? road(t) * 2 : road(t);
                default:
                    return road(t);
            }
        }

        int takes() {
            int length = told[4];
            int[] byKind = {length, Math.max(1, length / 2), length + 1, 1, length + 1 + told[5], length};
            return byKind[told[0]];
        }

        Way twin() {
            Way w = new Way();
            w.told = told.clone();
            w.sent = sent;
            return w;
        }
    }

    static final class Scene {
        int tick;
        int lost;
        List<Place> places = new ArrayList<>();
        List<Way> ways = new ArrayList<>();
        List<Parcel> parcels = new ArrayList<>();

        Scene twin() {
            Scene s = new Scene();
            s.tick = tick;
            s.lost = lost;
            for (Place p : places) {
                s.places.add(p.twin());
            }
            for (Way w : ways) {
                s.ways.add(w.twin());
            }
            s.parcels.addAll(parcels);
            return s;
        }

        boolean send(long line, long v) {
            if (line < 0 || line >= ways.size() || v < 0) {
                return false;
            }
            Way w = ways.get((int) line);
            Place p = places.get(w.told[1]);
            if (v > p.stock || v + w.sent > w.room(tick)) {
                return false;
            }
            p.stock -= (int) v;
            w.sent += (int) v;
            parcels.add(new Parcel((int) line, tick + w.takes(), (int) v));
            return true;
        }

        void pass() {
            for (Place p : places) {
                int over = Math.max(0, p.stock - p.holds(tick));
                lost += over;
                p.stock -= over;
            }
            tick++;
            for (Way w : ways) {
                w.sent = 0;
            }
            List<Parcel> rest = new ArrayList<>();
            for (Parcel p : parcels) {
                if (p.tick() == tick) {
                    places.get(ways.get(p.line()).told[2]).stock += p.goods();
                } else {
                    rest.add(p);
                }
            }
            parcels = rest;
        }

        int goods() {
            int sum = 0;
            for (Place p : places) {
                sum += p.stock;
            }
            return sum + underWay();
        }

        int underWay() {
            int sum = 0;
            for (Parcel p : parcels) {
                sum += p.goods();
            }
            return sum;
        }
    }

    /** The greatest flow by shortest augmenting ways, over a list of arcs. */
    static final class Graph {
        final List<List<int[]>> out = new ArrayList<>();

        Graph(int nodes) {
            for (int i = 0; i < nodes; i++) {
                out.add(new ArrayList<>());
            }
        }

        void arc(int a, int b, int room) {
            int[] there = {b, room, out.get(b).size()};
            int[] back = {a, 0, out.get(a).size()};
            out.get(a).add(there);
            out.get(b).add(back);
        }

        long flow(int source, int sink) {
            long sum = 0;
            while (true) {
                int[][] by = new int[out.size()][];
                int[] from = new int[out.size()];
                boolean[] seen = new boolean[out.size()];
                ArrayDeque<Integer> queue = new ArrayDeque<>();
                queue.add(source);
                seen[source] = true;
                while (!queue.isEmpty() && !seen[sink]) {
                    int at = queue.poll();
                    for (int[] arc : out.get(at)) {
                        if (arc[1] > 0 && !seen[arc[0]]) {
                            seen[arc[0]] = true;
                            by[arc[0]] = arc;
                            from[arc[0]] = at;
                            queue.add(arc[0]);
                        }
                    }
                }
                if (!seen[sink]) {
                    return sum;
                }
                int goods = Integer.MAX_VALUE;
                for (int at = sink; at != source; at = from[at]) {
                    goods = Math.min(goods, by[at][1]);
                }
                for (int at = sink; at != source; at = from[at]) {
                    by[at][1] -= goods;
                    out.get(at).get(by[at][2])[1] += goods;
                }
                sum += goods;
            }
        }
    }

    Scene now = new Scene();
    Scene kept;
    final StringBuilder tape = new StringBuilder();
    final long[][] sheets = new long[4][];
    final int[] bits = new int[4];
    final int[] findings = new int[8];

    int found(int finding) {
        findings[BEYOND - finding]++;
        return finding;
    }

    static boolean in(long v, long low, long high) {
        return low <= v && v <= high;
    }

    boolean isPlace(int s) {
        return in(s, 0, now.places.size() - 1);
    }

    boolean isWay(int l) {
        return in(l, 0, now.ways.size() - 1);
    }

    static boolean under(int kind, int wanted, int[] above) {
        return kind == wanted || above[kind] >= 0 && under(above[kind], wanted, above);
    }

    // ---- stations, lines

    int station(int kind, int stock) {
        if (!in(kind, 0, 3) || !in(stock, 0, 999)) {
            return found(BEYOND);
        }
        if (now.places.size() == 6) {
            return found(FULL);
        }
        Place p = new Place();
        p.kind = kind;
        p.stock = stock;
        now.places.add(p);
        return now.places.size() - 1;
    }

    int line(int kind, int from, int to, int wide, int length) {
        if (!in(kind, 0, 5) || !isPlace(from) || !isPlace(to) || from == to || !in(wide, 0, 99) || !in(length, 1, 9)) {
            return found(BEYOND);
        }
        if (now.ways.size() == 10) {
            return found(FULL);
        }
        Way w = new Way();
        w.told = new int[] {kind, from, to, wide, length, 0, 0, 99999};
        now.ways.add(w);
        return now.ways.size() - 1;
    }

    int of(int station, int what) {
        if (!isPlace(station) || !in(what, 0, 4)) {
            return found(BEYOND);
        }
        Place p = now.places.get(station);
        int comes = 0;
        for (Parcel q : now.parcels) {
            comes += now.ways.get(q.line()).told[2] == station ? q.goods() : 0;
        }
        return new int[] {p.kind, p.stock, p.store, p.holds(now.tick), comes}[what];
    }

    int its(int line, int what) {
        if (!isWay(line) || !in(what, 0, 11)) {
            return found(BEYOND);
        }
        Way w = now.ways.get(line);
        if (what < 8) {
            return w.told[what];
        }
        int on = 0;
        for (Parcel q : now.parcels) {
            on += q.line() == line ? q.goods() : 0;
        }
        return new int[] {w.room(now.tick), w.takes(), w.sent, on}[what - 8];
    }

    int set(int station, int what, int v) {
        int[] most = {3, 999, 99};
        if (!isPlace(station) || !in(what, 0, 2) || !in(v, 0, most[what])) {
            return found(BEYOND);
        }
        int was = of(station, what);
        Place p = now.places.get(station);
        if (what == 0) {
            p.kind = v;
        } else if (what == 1) {
            p.stock = v;
        } else {
            p.store = v;
        }
        return was;
    }

    int change(int line, int what, int v) {
        int last = now.places.size() - 1;
        int[] least = {0, 0, 0, 0, 1, 0, 0, 0};
        int[] most = {5, last, last, 99, 9, 5, 99, 99999};
        if (!isWay(line) || !in(what, 0, 7) || !in(v, least[what], most[what])) {
            return found(BEYOND);
        }
        int[] told = now.ways.get(line).told;
        if (what == 1 && v == told[2] || what == 2 && v == told[1]) {
            return found(BEYOND);
        }
        int was = told[what];
        told[what] = v;
        return was;
    }

    int as(int line, int kind) {
        if (!isWay(line) || !in(kind, 0, 5)) {
            return found(BEYOND);
        }
        int[] told = now.ways.get(line).told;
        return under(told[0], kind, new int[] {-1, 0, 0, 1, 2, 0}) ? told[3] : found(KIND);
    }

    int stands(int station, int kind) {
        if (!isPlace(station) || !in(kind, 0, 3)) {
            return found(BEYOND);
        }
        Place p = now.places.get(station);
        return under(p.kind, kind, new int[] {-1, 0, 0, 1}) ? p.store : found(KIND);
    }

    // ---- ticks

    int send(int line, int v) {
        if (!isWay(line) || !in(v, 0, 9999)) {
            return found(BEYOND);
        }
        if (!now.send(line, v)) {
            return found(STATE);
        }
        return now.places.get(now.ways.get(line).told[1]).stock;
    }

    int go(int n) {
        if (!in(n, 1, 60)) {
            return found(BEYOND);
        }
        if (now.tick + n > 99999) {
            return found(STATE);
        }
        for (int i = 0; i < n; i++) {
            now.pass();
        }
        return now.lost;
    }

    int now(int what) {
        if (!in(what, 0, 7)) {
            return found(BEYOND);
        }
        int stock = 0;
        int losing = 0;
        for (int i = 0; i < now.places.size(); i++) {
            Place p = now.places.get(i);
            stock += p.stock;
            losing += p.stock > p.holds(now.tick) ? 1 << i : 0;
        }
        int sent = 0;
        int room = 0;
        int open = 0;
        for (int i = 0; i < now.ways.size(); i++) {
            Way w = now.ways.get(i);
            sent += w.sent;
            room += w.room(now.tick);
            open += now.twin().send(i, 1) ? 1 << i : 0;
        }
        return new int[] {now.tick, stock, now.underWay(), now.lost, sent, room, losing, open}[what];
    }

    // ---- what can be

    /** What a question in thought changes: room (line, room told by the kind and tick), and a pair outside. */
    static final class Whim {
        IntBinaryOperator room = (line, room) -> room;
        int outStation = -1;
        int outTick = -1;
    }

    static int roomThen(Scene s, int line, int ahead, Whim whim) {
        Way w = s.ways.get(line);
        int room = whim.room.applyAsInt(line, w.room(s.tick + ahead));
        return ahead == 0 ? Math.max(0, room - w.sent) : room;
    }

    static int mostOf(Scene s, int g, int n, Whim whim) {
        int wide = s.places.size();
        int source = wide * (n + 1);
        int sink = source + 1;
        Graph graph = new Graph(sink + 1);
        for (int i = 0; i < wide; i++) {
            graph.arc(source, i, s.places.get(i).stock);
            for (int k = 0; k < n; k++) {
                graph.arc(k * wide + i, (k + 1) * wide + i, s.places.get(i).holds(s.tick + k));
            }
        }
        for (int k = 0; k <= n; k++) {
            graph.arc(k * wide + g, sink, ENDLESS);
        }
        for (Parcel p : s.parcels) {
            if (p.tick() - s.tick <= n) {
                graph.arc(source, (p.tick() - s.tick) * wide + s.ways.get(p.line()).told[2], p.goods());
            }
        }
        for (int l = 0; l < s.ways.size(); l++) {
            Way w = s.ways.get(l);
            for (int k = 0; k + w.takes() <= n; k++) {
                graph.arc(k * wide + w.told[1], (k + w.takes()) * wide + w.told[2], roomThen(s, l, k, whim));
            }
        }
        if (whim.outStation >= 0) {
            graph.arc(whim.outTick * wide + whim.outStation, sink, ENDLESS);
        }
        return (int) graph.flow(source, sink);
    }

    int mostNow(int g, int n) {
        return mostOf(now, g, n, new Whim());
    }

    int most(int g, int n) {
        return isPlace(g) && in(n, 0, 24) ? mostNow(g, n) : found(BEYOND);
    }

    int quick(int g, int v) {
        if (!isPlace(g) || v < 0) {
            return found(BEYOND);
        }
        for (int n = 0; n <= 24; n++) {
            if (mostNow(g, n) >= v) {
                return n;
            }
        }
        return found(NONE);
    }

    int all(int g) {
        return isPlace(g) ? quick(g, now.goods()) : found(BEYOND);
    }

    /** A pair is in all sides of the least cost if each side without it costs more. */
    int near(int station, int g, int n) {
        if (!isPlace(station) || !isPlace(g) || !in(n, 0, 24)) {
            return found(BEYOND);
        }
        int least = mostNow(g, n);
        int set = 0;
        for (int k = 0; k <= n && station != g; k++) {
            Whim without = new Whim();
            without.outStation = station;
            without.outTick = k;
            set += mostOf(now, g, n, without) > least ? 1 << k : 0;
        }
        return set;
    }

    /** By the words of the document, for any side at all. */
    static int costOf(Scene s, boolean[][] side, int n) {
        int sum = 0;
        for (int i = 0; i < s.places.size(); i++) {
            sum += side[i][0] ? 0 : s.places.get(i).stock;
            for (int k = 0; k < n; k++) {
                sum += side[i][k] && !side[i][k + 1] ? s.places.get(i).holds(s.tick + k) : 0;
            }
        }
        for (Parcel p : s.parcels) {
            int k = p.tick() - s.tick;
            sum += k <= n && !side[s.ways.get(p.line()).told[2]][k] ? p.goods() : 0;
        }
        for (int l = 0; l < s.ways.size(); l++) {
            Way w = s.ways.get(l);
            for (int k = 0; k + w.takes() <= n; k++) {
                boolean leads = side[w.told[1]][k] && !side[w.told[2]][k + w.takes()];
                sum += leads ? roomThen(s, l, k, new Whim()) : 0;
            }
        }
        return sum;
    }

    int cost(int s, int g, int n) {
        if (!in(s, 0, 3)) {
            return found(BEYOND);
        }
        if (sheets[s] == null) {
            return found(MISSING);
        }
        if (!isPlace(g) || !in(n, 0, 24)) {
            return found(BEYOND);
        }
        boolean[][] side = new boolean[now.places.size()][n + 1];
        for (int i = 0; i < now.places.size() && i < sheets[s].length; i++) {
            long first = sheets[s][i];
            for (int k = 0; k <= n; k++) {
                side[i][k] = first >= 0 && k >= first;
            }
        }
        return side[g][n] ? found(STATE) : costOf(now, side, n);
    }

    // ---- which way is best

    int lose(int g, int n) {
        if (!isPlace(g) || !in(n, 0, 24)) {
            return found(BEYOND);
        }
        int best = -1;
        int least = Integer.MAX_VALUE;
        for (int i = 0; i < now.ways.size(); i++) {
            int lost = i;
            Whim without = new Whim();
            without.room = (line, room) -> line == lost ? 0 : room;
            int most = mostOf(now, g, n, without);
            if (most < least) {
                least = most;
                best = i;
            }
        }
        return best < 0 ? found(NONE) : best;
    }

    int widen(int g, int n) {
        if (!isPlace(g) || !in(n, 0, 24)) {
            return found(BEYOND);
        }
        int best = -1;
        int greatest = mostNow(g, n);
        for (int i = 0; i < now.ways.size(); i++) {
            Scene wider = now.twin();
            wider.ways.get(i).told[3]++;
            wider.ways.get(i).told[6]++;
            int most = mostOf(wider, g, n, new Whim());
            if (most > greatest) {
                greatest = most;
                best = i;
            }
        }
        return best < 0 ? found(NONE) : best;
    }

    int held(int line, int g, int n) {
        if (!isWay(line) || !isPlace(g) || !in(n, 0, 24)) {
            return found(BEYOND);
        }
        int whole = mostNow(g, n);
        for (int held = 0; ; held++) {
            int to = held;
            Whim whim = new Whim();
            whim.room = (l, room) -> l == line ? Math.min(room, to) : room;
            if (mostOf(now, g, n, whim) == whole) {
                return held;
            }
        }
    }

    int begin(int g, int n) {
        if (!isPlace(g) || !in(n, 0, 24)) {
            return found(BEYOND);
        }
        int whole = mostNow(g, n);
        for (int i = 0; i < now.places.size(); i++) {
            Scene more = now.twin();
            more.places.get(i).stock++;
            if (mostOf(more, g, n, new Whim()) > whole) {
                return i;
            }
        }
        return found(NONE);
    }

    int kind(int line, int g, int n) {
        if (!isWay(line) || !isPlace(g) || !in(n, 0, 24)) {
            return found(BEYOND);
        }
        int[] most = new int[6];
        for (int i = 0; i < 6; i++) {
            Scene other = now.twin();
            other.ways.get(line).told[0] = i;
            most[i] = mostOf(other, g, n, new Whim());
        }
        return firstOfGreatest(most);
    }

    int goal(int n) {
        if (!in(n, 0, 24)) {
            return found(BEYOND);
        }
        if (now.places.isEmpty()) {
            return found(NONE);
        }
        int[] most = new int[now.places.size()];
        for (int i = 0; i < most.length; i++) {
            most[i] = mostNow(i, n);
        }
        return firstOfGreatest(most);
    }

    static int firstOfGreatest(int[] of) {
        int best = 0;
        for (int i = 1; i < of.length; i++) {
            best = of[i] > of[best] ? i : best;
        }
        return best;
    }

    // ---- what goes on for ever

    /** Over the ticks themselves, with goods without end at a. */
    long steadyShort(int a, int b, int n) {
        int wide = now.places.size();
        int source = wide * (n + 1);
        int sink = source + 1;
        Graph graph = new Graph(sink + 1);
        graph.arc(source, a, ENDLESS);
        for (int k = 0; k <= n; k++) {
            graph.arc(k * wide + b, sink, ENDLESS);
            for (int i = 0; i < wide && k < n; i++) {
                graph.arc(k * wide + i, (k + 1) * wide + i, ENDLESS);
            }
        }
        for (Way w : now.ways) {
            for (int k = 0; k + w.takes() <= n; k++) {
                graph.arc(k * wide + w.told[1], (k + w.takes()) * wide + w.told[2], w.room(now.tick));
            }
        }
        return graph.flow(source, sink);
    }

    /** Behind more ticks than any way takes (75), it is as much more with each. */
    long steadyLong(int a, int b, long n) {
        if (n <= 79) {
            return n < 0 ? 0 : steadyShort(a, b, (int) n);
        }
        long last = steadyShort(a, b, 79);
        return last + (n - 79) * (last - steadyShort(a, b, 78));
    }

    boolean areTwo(int a, int b) {
        return isPlace(a) && isPlace(b) && a != b;
    }

    int steady(int a, int b, int n) {
        if (!areTwo(a, b) || n < 0) {
            return found(BEYOND);
        }
        long goods = steadyLong(a, b, n);
        return goods > Integer.MAX_VALUE ? found(OVER) : (int) goods;
    }

    int rate(int a, int b) {
        return areTwo(a, b) ? (int) (steadyLong(a, b, 81) - steadyLong(a, b, 80)) : found(BEYOND);
    }

    int gain(int a, int b, int d) {
        if (!areTwo(a, b) || !in(d, 0, 120)) {
            return found(BEYOND);
        }
        return (int) (steadyLong(a, b, d) - 2 * steadyLong(a, b, d - 1) + steadyLong(a, b, d - 2));
    }

    int reach(int a, int b, int v) {
        if (!areTwo(a, b) || v < 0) {
            return found(BEYOND);
        }
        long last = steadyShort(a, b, 79);
        if (last < v) {
            long more = last - steadyShort(a, b, 78);
            if (more == 0) {
                return found(NONE);
            }
            long ticks = 79 + (v - last + more - 1) / more;
            return ticks > Integer.MAX_VALUE ? found(OVER) : (int) ticks;
        }
        for (int n = 0; ; n++) {
            if (steadyShort(a, b, n) >= v) {
                return n;
            }
        }
    }

    // ---- texts

    int feed(int bytes, int n) {
        if (!in(n, 1, 4)) {
            return found(BEYOND);
        }
        if (tape.length() + n > 120) {
            return found(FULL);
        }
        for (int i = n; i > 0; i--) {
            tape.append((char) (bytes >>> 8 * (i - 1) & 255));
        }
        return tape.length();
    }

    int wipe() {
        int had = tape.length();
        tape.setLength(0);
        return had;
    }

    record Token(String is, int place) { }

    List<Token> tokens() {
        List<Token> list = new ArrayList<>();
        int at = 0;
        while (at < tape.length()) {
            int begin = at;
            char c = tape.charAt(at++);
            String like = c >= 'a' && c <= 'z' ? "[a-z]" : c >= '0' && c <= '9' ? "[0-9]" : "";
            while (!like.isEmpty() && at < tape.length() && tape.substring(at, at + 1).matches(like)) {
                at++;
            }
            if (c != ' ') {
                list.add(new Token(tape.substring(begin, at), begin));
            }
        }
        return list;
    }

    static final class Fault extends Exception {
        private static final long serialVersionUID = 1L;
        final int place;

        Fault(int place) {
            super("fault");
            this.place = place;
        }
    }

    static final class Reader {
        List<Token> tokens;
        int at;
        int bytes;

        boolean isEnd() {
            return at == tokens.size();
        }

        String peek() {
            return isEnd() ? "" : tokens.get(at).is();
        }

        Fault fault() {
            return new Fault(isEnd() ? bytes : tokens.get(at).place());
        }

        int number(int low, int high, int other) throws Fault {
            String s = peek().replaceFirst("^0+(?=[0-9])", "");
            if (!s.matches("[0-9]{1,3}") || !in(Integer.parseInt(s), low, high) || Integer.parseInt(s) == other) {
                throw fault();
            }
            at++;
            return Integer.parseInt(s);
        }

        int perhaps(String word, int low, int high, int without) throws Fault {
            if (!peek().equals(word)) {
                return without;
            }
            at++;
            return number(low, high, -1);
        }
    }

    static void item(Scene s, Reader r) throws Fault {
        int station = List.of("yard", "shed", "quay", "vault").indexOf(r.peek());
        int line = List.of("road", "rail", "ferry", "express", "barge", "pass").indexOf(r.peek());
        if (station < 0 && line < 0 || station >= 0 && s.places.size() == 6 || line >= 0 && s.ways.size() == 10) {
            throw r.fault();
        }
        r.at++;
        if (station >= 0) {
            Place p = new Place();
            p.kind = station;
            p.stock = r.perhaps("stock", 0, 999, 0);
            p.store = r.perhaps("store", 0, 99, 20);
            s.places.add(p);
            return;
        }
        Way w = new Way();
        w.told[0] = line;
        w.told[1] = r.number(0, s.places.size() - 1, -1);
        w.told[2] = r.number(0, s.places.size() - 1, w.told[1]);
        w.told[3] = r.perhaps("wide", 0, 99, 10);
        w.told[4] = r.perhaps("long", 1, 9, 1);
        w.told[5] = r.perhaps("tide", 0, 5, 0);
        w.told[6] = r.perhaps("later", 0, 99, -1);
        if (w.told[6] >= 0) {
            w.told[7] = r.number(0, 999, -1);
        } else {
            w.told[6] = 0;
        }
        s.ways.add(w);
    }

    int text() {
        Reader r = new Reader();
        r.tokens = tokens();
        r.bytes = tape.length();
        tape.setLength(0);
        Scene s = now.twin();
        int items = 0;
        try {
            while (true) {
                item(s, r);
                items++;
                if (r.isEnd()) {
                    now = s;
                    return items;
                }
                if (!r.peek().equals(";")) {
                    throw r.fault();
                }
                r.at++;
            }
        } catch (Fault fault) {
            return -1 - fault.place;
        }
    }

    // ---- sheets

    int sheet(int s, int b, int n) {
        if (!in(s, 0, 3) || b != 0 && b != 16 && b != 32 && b != 64) {
            return found(BEYOND);
        }
        if (b != 0 && n < 0) {
            return found(SIZE);
        }
        if (b != 0 && n > 40) {
            return found(BEYOND);
        }
        bits[s] = b;
        sheets[s] = b == 0 ? null : new long[n];
        return b == 0 ? 0 : n;
    }

    long cut(int s, long v) {
        int away = 64 - bits[s];
        return v << away >> away;
    }

    long write(int s, int i, long v) {
        if (!in(s, 0, 3)) {
            return found(BEYOND);
        }
        if (sheets[s] == null) {
            return found(MISSING);
        }
        if (!in(i, 0, sheets[s].length - 1)) {
            return found(BEYOND);
        }
        long was = sheets[s][i];
        sheets[s][i] = cut(s, v);
        return was;
    }

    int copy(int s, int from, int t, int to, int n) {
        if (!in(s, 0, 3) || !in(t, 0, 3)) {
            return found(BEYOND);
        }
        if (sheets[s] == null || sheets[t] == null) {
            return found(MISSING);
        }
        if (bits[s] != bits[t]) {
            return found(KIND);
        }
        if (from < 0 || to < 0 || n < 0 || (long) from + n > sheets[s].length || (long) to + n > sheets[t].length) {
            return found(BEYOND);
        }
        long[] were = Arrays.copyOfRange(sheets[s], from, from + n);
        for (int i = 0; i < n; i++) {
            sheets[t][to + i] = were[i];
        }
        return n;
    }

    int lays(int s) {
        if (!in(s, 0, 3)) {
            return found(BEYOND);
        }
        if (sheets[s] == null) {
            return found(MISSING);
        }
        int came = 0;
        for (int i = 0; i < sheets[s].length; i++) {
            if (isPlace(i) && in(sheets[s][i], 0, 999)) {
                now.places.get(i).stock = (int) sheets[s][i];
                came++;
            }
        }
        return came;
    }

    int book(int s, int g) {
        if (!in(s, 0, 3)) {
            return found(BEYOND);
        }
        if (sheets[s] == null) {
            return found(MISSING);
        }
        if (!isPlace(g)) {
            return found(BEYOND);
        }
        int n = Math.min(25, sheets[s].length);
        for (int i = 0; i < n; i++) {
            sheets[s][i] = cut(s, mostNow(g, i));
        }
        return n;
    }

    /** The three that fails, -1 if none. */
    static int follow(Scene s, long[] plan, int n) {
        for (int ahead = 0; ahead < n; ahead++) {
            for (int i = 0; 3 * i + 2 < plan.length; i++) {
                if (plan[3 * i + 1] == ahead && !s.send(plan[3 * i], plan[3 * i + 2])) {
                    return i;
                }
            }
            s.pass();
        }
        return -1;
    }

    int plan(int s, int g, int n, boolean truly) {
        if (!in(s, 0, 3)) {
            return found(BEYOND);
        }
        if (sheets[s] == null) {
            return found(MISSING);
        }
        if (!isPlace(g) || !in(n, 0, 24)) {
            return found(BEYOND);
        }
        if (truly && now.tick + n > 99999) {
            return found(STATE);
        }
        Scene then = now.twin();
        int failed = follow(then, sheets[s], n);
        if (failed >= 0) {
            return -1 - failed;
        }
        if (truly) {
            now = then;
        }
        return then.places.get(g).stock;
    }

    int replay(int s, int g, int n) {
        return plan(s, g, n, false);
    }

    int run(int s, int g, int n) {
        return plan(s, g, n, true);
    }

    // ---- images

    int image() {
        kept = now.twin();
        return 1;
    }

    int undo() {
        if (kept == null) {
            return found(NONE);
        }
        now = kept.twin();
        return now.tick;
    }

    int tear() {
        int was = kept == null ? 0 : 1;
        kept = null;
        return was;
    }

    int count(int what) {
        Map<Integer, Integer> told = Map.of(0, now.tick, 1, now.places.size(), 2, now.ways.size(), 3, now.lost,
                4, now.goods(), 5, tape.length());
        return told.containsKey(what) ? told.get(what) : found(BEYOND);
    }

    int status(int which) {
        if (!in(which, -1, 7)) {
            return found(BEYOND);
        }
        return which < 0 ? Arrays.stream(findings).sum() : findings[which];
    }
}
