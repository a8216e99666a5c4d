import java.util.ArrayDeque;
import java.util.ArrayList;
import java.util.Arrays;
import java.util.HashMap;
import java.util.LinkedHashMap;
import java.util.HashSet;
import java.util.List;
import java.util.Map;
import java.util.Random;
import java.util.Set;
import java.util.TreeSet;
import java.util.regex.Matcher;
import java.util.regex.Pattern;

/**
 * Runs of calls drawn from fixed seeds, each answered by the class and by a slow model of the
 * document that shares no code and no way of working with it (texts as states, maps, other searches).
 */
public final class OracleTest {
    static final int BEYOND = -1000000001;
    static final int FULL = -1000000002;
    static final int KIND = -1000000003;
    static final int NONE = -1000000004;
    static final int STATE = -1000000005;
    static final int MISSING = -1000000006;
    static final int SIZE = -1000000007;

    /** One STEP; goal is the STEP itself that an AGAIN goes on with. */
    static final class Op {
        int kind;
        int cell = -1;
        int value = -1;
        int second = -1;
        Op goal;
        int goalPlace;
    }

    static final class Hand {
        int call;
        int then;
    }

    /** A STATE that is a plain object; its key is a text. */
    static final class Spot {
        int[] cells = new int[3];
        int[] call;
        int[] step;
        int[] a;
        int[] b;
        List<List<int[]>> waiting = new ArrayList<>();

        Spot(int hands) {
            call = new int[hands];
            step = new int[hands];
            a = new int[hands];
            b = new int[hands];
            for (int h = 0; h < hands; h++) {
                waiting.add(new ArrayList<>());
            }
        }

        Spot again() {
            Spot s = new Spot(call.length);
            s.cells = cells.clone();
            s.call = call.clone();
            s.step = step.clone();
            s.a = a.clone();
            s.b = b.clone();
            for (int h = 0; h < call.length; h++) {
                s.waiting.get(h).addAll(waiting.get(h));
            }
            return s;
        }

        String key() {
            StringBuilder t = new StringBuilder(Arrays.toString(cells));
            for (int h = 0; h < call.length; h++) {
                t.append('|').append(call[h]).append(',').append(step[h]).append(',').append(a[h]).append(',').append(b[h]);
                for (int[] w : waiting.get(h)) {
                    t.append('/').append(w[0]).append('=').append(w[1]);
                }
            }
            return t.toString();
        }
    }

    /** Hands with their programs, one list of STEPS a CALL. */
    static final class World {
        List<List<List<Op>>> hands = new ArrayList<>();
        int[] first;
        boolean late;

        Spot start() {
            Spot s = new Spot(hands.size());
            s.cells = first.clone();
            return s;
        }

        int[] lastTouch = {-1};

        /** The MOVE done on a copy, or null; tells in lastTouch the CELL that it touched. */
        Spot move(Spot from, long number, boolean isLate) {
            lastTouch[0] = -1;
            if (number >= 10 && number < 10 + hands.size()) {
                int h = (int) number - 10;
                if (from.waiting.get(h).isEmpty()) {
                    return null;
                }
                Spot s = from.again();
                int[] w = s.waiting.get(h).remove(0);
                s.cells[w[0]] = w[1];
                lastTouch[0] = w[0];
                return s;
            }
            if (number < 0 || number >= hands.size()) {
                return null;
            }
            int h = (int) number;
            if (from.call[h] >= hands.get(h).size()) {
                return null;
            }
            List<Op> ops = hands.get(h).get(from.call[h]);
            Op op = ops.get(from.step[h]);
            Spot s = from.again();
            List<int[]> w = s.waiting.get(h);
            s.step[h]++;
            if (op.kind == 0) {
                s.b[h] = s.a[h];
            } else if (op.kind == 1) {
                int seen = s.cells[op.cell];
                lastTouch[0] = op.cell;
                for (int[] one : w) {
                    if (one[0] == op.cell) {
                        seen = one[1];
                        lastTouch[0] = -1;
                    }
                }
                s.a[h] = seen;
            } else if (op.kind == 2) {
                int v = op.value == -1 ? s.b[h] : op.value;
                if (isLate) {
                    if (w.size() == 2) {
                        return null;
                    }
                    w.add(new int[] {op.cell, v});
                } else {
                    s.cells[op.cell] = v;
                    lastTouch[0] = op.cell;
                }
            } else if (op.kind == 6) {
                if (s.a[h] == 0) {
                    s.step[h] = ops.indexOf(op.goal);
                }
            } else if (op.kind == 7) {
                s.a[h] = op.value;
            } else {
                if (!w.isEmpty()) {
                    return null;
                }
                if (op.kind == 3) {
                    lastTouch[0] = op.cell;
                    boolean is = s.cells[op.cell] == op.value;
                    s.a[h] = is ? 1 : 0;
                    if (is) {
                        s.cells[op.cell] = op.second;
                    }
                } else if (op.kind == 4) {
                    lastTouch[0] = op.cell;
                    s.a[h] = s.cells[op.cell];
                    s.cells[op.cell] = (s.cells[op.cell] + op.value) % 4;
                }
            }
            if (s.step[h] == ops.size()) {
                s.step[h] = 0;
                s.call[h]++;
            }
            return s;
        }

        boolean isEnd(Spot s) {
            for (int h = 0; h < hands.size(); h++) {
                if (s.call[h] < hands.get(h).size() || !s.waiting.get(h).isEmpty()) {
                    return false;
                }
            }
            return true;
        }

        int result(Spot s) {
            StringBuilder t = new StringBuilder();
            for (int c : s.cells) {
                t.append(c);
            }
            for (int h = 0; h < hands.size(); h++) {
                t.append(s.a[h]).append(s.b[h]);
            }
            return Integer.parseInt(t.toString(), 4);
        }

        TreeSet<Integer> ordered() {
            TreeSet<Integer> all = new TreeSet<>();
            inOrder(start(), all);
            return all;
        }

        void inOrder(Spot s, TreeSet<Integer> all) {
            boolean over = true;
            for (int h = 0; h < hands.size(); h++) {
                if (s.call[h] < hands.get(h).size()) {
                    over = false;
                    int call = s.call[h];
                    Set<String> seen = new HashSet<>();
                    Spot t = s;
                    while (t != null && t.call[h] == call) {
                        t = seen.add(t.key()) ? move(t, h, false) : null;
                    }
                    if (t != null) {
                        inOrder(t, all);
                    }
                }
            }
            if (over) {
                all.add(result(s));
            }
        }
    }

    static final int NONE_INDEX = BEYOND - NONE;
    static final int SIZE_INDEX = BEYOND - SIZE;
    static final int[] NUMBERS = {0, 1, 2, 10, 11, 12};

    /** All STATES of a world with the MOVES among them, or tooLarge. */
    static final class Graph {
        Map<String, Spot> spots = new LinkedHashMap<>();
        Map<String, Map<Integer, String>> next = new HashMap<>();
        boolean tooLarge;
        TreeSet<Integer> ends = new TreeSet<>();
        TreeSet<Integer> bad = new TreeSet<>();

        Graph(World world, TreeSet<Integer> good) {
            ArrayDeque<String> stack = new ArrayDeque<>();
            Spot start = world.start();
            spots.put(start.key(), start);
            stack.push(start.key());
            while (!stack.isEmpty()) {
                String at = stack.pop();
                Map<Integer, String> out = new LinkedHashMap<>();
                for (int number : NUMBERS) {
                    Spot s = world.move(spots.get(at), number, world.late);
                    if (s != null) {
                        String key = s.key();
                        out.put(number, key);
                        if (!spots.containsKey(key)) {
                            spots.put(key, s);
                            stack.push(key);
                            if (spots.size() > 6000) {
                                tooLarge = true;
                                return;
                            }
                        }
                    }
                }
                next.put(at, out);
                if (world.isEnd(spots.get(at))) {
                    ends.add(world.result(spots.get(at)));
                }
            }
            bad.addAll(ends);
            bad.removeAll(good);
        }

        /** How many MOVES each STATE is away from the nearest of these. */
        Map<String, Integer> distancesTo(Set<String> goals) {
            Map<String, List<String>> before = new HashMap<>();
            for (String at : next.keySet()) {
                for (String to : next.get(at).values()) {
                    before.computeIfAbsent(to, k -> new ArrayList<>()).add(at);
                }
            }
            Map<String, Integer> far = new HashMap<>();
            ArrayDeque<String> line = new ArrayDeque<>(goals);
            for (String g : goals) {
                far.put(g, 0);
            }
            while (!line.isEmpty()) {
                String at = line.poll();
                for (String b : before.getOrDefault(at, List.of())) {
                    if (!far.containsKey(b)) {
                        far.put(b, far.get(at) + 1);
                        line.add(b);
                    }
                }
            }
            return far;
        }

        Set<String> endsWith(World world, Integer result) {
            Set<String> keys = new HashSet<>();
            for (Map.Entry<String, Spot> e : spots.entrySet()) {
                if (world.isEnd(e.getValue()) && (result == null || world.result(e.getValue()) == result)) {
                    keys.add(e.getKey());
                }
            }
            return keys;
        }

        List<Integer> turn(World world) {
            Map<String, Integer> far = distancesTo(endsWith(world, bad.first()));
            List<Integer> turn = new ArrayList<>();
            String at = world.start().key();
            while (far.get(at) > 0) {
                for (Map.Entry<Integer, String> e : next.get(at).entrySet()) {
                    Integer d = far.get(e.getValue());
                    if (d != null && d == far.get(at) - 1) {
                        turn.add(e.getKey());
                        at = e.getValue();
                        break;
                    }
                }
            }
            return turn;
        }

        int stuck(World world) {
            return spots.size() - distancesTo(endsWith(world, null)).size();
        }

        /** Takes away STATES that lead nowhere until none does: 1 if some stay. */
        int round() {
            Map<String, Integer> out = new HashMap<>();
            Map<String, List<String>> before = new HashMap<>();
            ArrayDeque<String> line = new ArrayDeque<>();
            for (String at : next.keySet()) {
                out.put(at, next.get(at).size());
                if (next.get(at).isEmpty()) {
                    line.add(at);
                }
                for (String to : next.get(at).values()) {
                    before.computeIfAbsent(to, k -> new ArrayList<>()).add(at);
                }
            }
            int gone = 0;
            while (!line.isEmpty()) {
                gone++;
                for (String b : before.getOrDefault(line.poll(), List.of())) {
                    if (out.merge(b, -1, Integer::sum) == 0) {
                        line.add(b);
                    }
                }
            }
            return gone == spots.size() ? 0 : 1;
        }
    }

    static final class Model {
        StringBuilder tape = new StringBuilder();
        List<List<Op>> calls = new ArrayList<>();
        List<Hand> hands = new ArrayList<>();
        int[] first = new int[3];
        int machine;
        List<List<Op>> keptCalls;
        List<Hand> keptHands;
        int[] keptFirst;
        int keptMachine;
        int[] bits = new int[4];
        long[][] sheets = new long[4][0];
        int[] counts = new int[7];

        int f(int finding) {
            counts[BEYOND - finding]++;
            return finding;
        }

        int feed(int bytes, int n) {
            if (n < 1 || n > 4) return f(BEYOND);
            if (tape.length() + n > 120) return f(FULL);
            for (int i = n - 1; i >= 0; i--) tape.append((char) ((bytes >>> (8 * i)) & 255));
            return tape.length();
        }

        int wipe() {
            int n = tape.length();
            tape.setLength(0);
            return n;
        }

        static final Pattern TOKEN = Pattern.compile(" *(?:([a-z]+)|([0-9]+)|(;)|([^ ])|$)", Pattern.DOTALL);
        static final List<String> SHAPES = List.of("read c", "write c", "put c v", "swap c v v", "add c v",
            "fence", "set v", "keep", "again s");
        static final int[] KINDS = {1, 2, 2, 3, 4, 5, 7, 0, 6};

        /** Splits the whole tape first, then holds each token against what may stand there. */
        int parse(List<Op> into) {
            List<String> tokens = new ArrayList<>();
            List<Integer> places = new ArrayList<>();
            Matcher m = TOKEN.matcher(tape);
            int at = 0;
            while (m.find(at) && m.end() > at) {
                at = m.end();
                for (int g = 1; g <= 4; g++) {
                    if (m.group(g) != null) {
                        tokens.add(g == 4 ? "?" : m.group(g));
                        places.add(m.start(g));
                    }
                }
            }
            tokens.add("");
            places.add(tape.length());
            int i = 0;
            while (true) {
                String word = tokens.get(i);
                int shape = -1;
                for (int k = 0; k < SHAPES.size(); k++) {
                    if (SHAPES.get(k).split(" ")[0].equals(word)) shape = k;
                }
                if (shape < 0 || into.size() == 7) return places.get(i);
                Op op = new Op();
                op.kind = KINDS[shape];
                String[] parts = SHAPES.get(shape).split(" ");
                i++;
                int values = 0;
                for (int p = 1; p < parts.length; p++, i++) {
                    String token = tokens.get(i);
                    if (!token.matches("[0-9]+")) return places.get(i);
                    java.math.BigInteger v = new java.math.BigInteger(token);
                    int limit = parts[p].equals("c") ? 2 : parts[p].equals("v") ? 3 : into.size();
                    if (v.compareTo(java.math.BigInteger.valueOf(limit)) > 0) return places.get(i);
                    if (parts[p].equals("c")) op.cell = v.intValue();
                    if (parts[p].equals("v") && values++ == 0) op.value = v.intValue();
                    else if (parts[p].equals("v")) op.second = v.intValue();
                    if (parts[p].equals("s")) {
                        op.goalPlace = v.intValue();
                        op.goal = op.goalPlace == into.size() ? op : into.get(op.goalPlace);
                    }
                }
                into.add(op);
                if (tokens.get(i).equals("")) return -1;
                if (!tokens.get(i).equals(";")) return places.get(i);
                i++;
            }
        }

        int text() {
            if (calls.size() == 6) return f(FULL);
            List<Op> ops = new ArrayList<>();
            int fault = parse(ops);
            if (fault >= 0) return -1 - fault;
            tape.setLength(0);
            calls.add(ops);
            return calls.size() - 1;
        }

        boolean is(int call) {
            return call >= 0 && call < calls.size();
        }

        Op op(int call, int step) {
            return is(call) && step >= 0 && step < calls.get(call).size() ? calls.get(call).get(step) : null;
        }

        int steps(int call) {
            return is(call) ? calls.get(call).size() : f(BEYOND);
        }

        int step(int call, int step, int what) {
            Op o = op(call, step);
            if (o == null || what < 0 || what > 4) return f(BEYOND);
            if (what == 0) return o.kind;
            if (what == 1 && List.of(1, 2, 3, 4).contains(o.kind)) return o.cell;
            if (what == 2 && List.of(2, 3, 4, 7).contains(o.kind)) return o.value;
            if (what == 3 && o.kind == 3) return o.second;
            if (what == 4 && o.kind == 6) return o.goalPlace;
            return f(KIND);
        }

        int as(int call, int step, int kind) {
            Op o = op(call, step);
            if (o == null || kind < 0 || kind > 7) return f(BEYOND);
            return kind == 0 || kind == o.kind || kind == 3 && o.kind == 4 ? o.kind : f(KIND);
        }

        boolean changes(Op o) {
            return o.kind == 3 || o.kind == 4 || o.kind == 7 || o.kind == 2 && o.value >= 0;
        }

        int change(int call, int step, int v) {
            Op o = op(call, step);
            if (o == null || v < 0 || v > 3) return f(BEYOND);
            if (!changes(o)) return f(KIND);
            return exchange(o, v);
        }

        int exchange(Op o, int v) {
            int was = o.kind == 3 ? o.second : o.value;
            if (o.kind == 3) o.second = v;
            else o.value = v;
            return was;
        }

        int cell(int cell, int v) {
            if (cell < 0 || cell > 2 || v < 0 || v > 3) return f(BEYOND);
            int was = first[cell];
            first[cell] = v;
            return was;
        }

        int machine(int m) {
            if (m != 0 && m != 1) return f(BEYOND);
            int was = machine;
            machine = m;
            return was;
        }

        int hand(int call, int then) {
            if (!is(call) || !is(then) && then != -1) return f(BEYOND);
            if (hands.size() == 3) return f(FULL);
            Hand h = new Hand();
            h.call = call;
            h.then = then;
            hands.add(h);
            return hands.size() - 1;
        }

        int clear() {
            int n = hands.size();
            hands.clear();
            return n;
        }

        World world(Set<Op> fenced) {
            World w = new World();
            w.first = first.clone();
            w.late = machine == 1;
            for (Hand h : hands) {
                List<List<Op>> all = new ArrayList<>();
                for (int c : new int[] {h.call, h.then}) {
                    if (c >= 0) {
                        List<Op> ops = new ArrayList<>();
                        for (Op o : calls.get(c)) {
                            ops.add(o);
                            if (fenced.contains(o)) {
                                Op fence = new Op();
                                fence.kind = 5;
                                ops.add(fence);
                            }
                        }
                        all.add(ops);
                    }
                }
                w.hands.add(all);
            }
            return w;
        }

        World world() {
            return world(Set.of());
        }

        Graph graph() {
            World w = world();
            return new Graph(w, w.ordered());
        }

        int states() {
            Graph g = graph();
            return g.tooLarge ? f(SIZE) : g.spots.size();
        }

        int ends() {
            Graph g = graph();
            return g.tooLarge ? f(SIZE) : g.ends.size();
        }

        int result(int i) {
            if (i < 0) return f(BEYOND);
            Graph g = graph();
            if (g.tooLarge) return f(SIZE);
            return i < g.ends.size() ? new ArrayList<>(g.ends).get(i) : f(NONE);
        }

        int orders() {
            return world().ordered().size();
        }

        int inOrder(int i) {
            if (i < 0) return f(BEYOND);
            List<Integer> all = new ArrayList<>(world().ordered());
            return i < all.size() ? all.get(i) : f(NONE);
        }

        int bad() {
            Graph g = graph();
            return g.tooLarge ? f(SIZE) : g.bad.size();
        }

        int worst() {
            Graph g = graph();
            if (g.tooLarge) return f(SIZE);
            return g.bad.isEmpty() ? f(NONE) : g.bad.first();
        }

        int turn(int i) {
            if (i < -1) return f(BEYOND);
            Graph g = graph();
            if (g.tooLarge) return f(SIZE);
            if (g.bad.isEmpty()) return f(NONE);
            List<Integer> t = g.turn(world());
            return i == -1 ? t.size() : i < t.size() ? t.get(i) : f(NONE);
        }

        int stuck() {
            Graph g = graph();
            return g.tooLarge ? f(SIZE) : g.stuck(world());
        }

        int round() {
            Graph g = graph();
            return g.tooLarge ? f(SIZE) : g.round();
        }

        int heal(int call, int step) {
            Op o = op(call, step);
            if (o == null) return f(BEYOND);
            if (!changes(o)) return f(KIND);
            int own = exchange(o, 0);
            int set = 0;
            boolean large = false;
            for (int v = 0; v < 4; v++) {
                exchange(o, v);
                Graph g = graph();
                large |= g.tooLarge;
                set |= g.bad.isEmpty() ? 1 << v : 0;
            }
            exchange(o, own);
            return large ? f(SIZE) : set;
        }

        int fences() {
            List<Op> writes = new ArrayList<>();
            for (int c = 0; c < calls.size(); c++) {
                for (Op o : calls.get(c)) {
                    int call = c;
                    if (o.kind == 2 && hands.stream().anyMatch(h -> h.call == call || h.then == call) && writes.size() < 6) writes.add(o);
                }
            }
            List<Integer> sets = new ArrayList<>();
            for (int set = 0; set < 1 << writes.size(); set++) sets.add(set);
            sets.sort((p, q) -> Integer.bitCount(p) != Integer.bitCount(q) ? Integer.bitCount(p) - Integer.bitCount(q) : p - q);
            for (int set : sets) {
                Set<Op> fenced = new HashSet<>();
                for (int i = 0; i < writes.size(); i++) {
                    if ((set >> i & 1) == 1) fenced.add(writes.get(i));
                }
                World w = world(fenced);
                Graph g = new Graph(w, w.ordered());
                if (g.tooLarge) return f(SIZE);
                if (g.bad.isEmpty()) return set;
            }
            return f(NONE);
        }

        Spot spot;
        int done;
        int cost;

        int play(int s) {
            if (s < 0 || s > 3) return BEYOND;
            if (bits[s] == 0) return MISSING;
            World w = world();
            spot = w.start();
            done = 0;
            cost = 0;
            Map<Integer, Long> latest = new HashMap<>();
            for (long number : sheets[s]) {
                Spot t = w.move(spot, number, w.late);
                if (t == null) return STATE;
                cost++;
                if (w.lastTouch[0] >= 0) {
                    Long before = latest.put(w.lastTouch[0], number % 10);
                    if (before != null && before != number % 10) cost += 4;
                }
                spot = t;
                done++;
            }
            return 0;
        }

        int cost(int s) {
            int p = play(s);
            return p < 0 ? f(p) : cost;
        }

        int played(int s) {
            int p = play(s);
            return p < 0 && p != STATE ? f(p) : done;
        }

        int judge(int s) {
            int p = play(s);
            if (p < 0) return f(p);
            World w = world();
            return !w.isEnd(spot) ? 2 : w.ordered().contains(w.result(spot)) ? 0 : 1;
        }

        int moves(int s) {
            int p = play(s);
            if (p < 0) return f(p);
            int set = 0;
            for (int i = 0; i < 6; i++) {
                World w = world();
                if (w.move(spot, NUMBERS[i], w.late) != null) set |= 1 << i;
            }
            return set;
        }

        int after(int s, int what) {
            if (s < 0 || s > 3) return f(BEYOND);
            boolean ok = what >= 0 && what <= 2;
            for (int h = 0; h < hands.size(); h++) ok |= what >= 10 * (h + 1) && what <= 10 * (h + 1) + 4;
            if (!ok) return f(BEYOND);
            int p = play(s);
            if (p < 0) return f(p);
            if (what < 3) return spot.cells[what];
            int h = what / 10 - 1;
            return new int[] {spot.a[h], spot.b[h], spot.waiting.get(h).size(), spot.step[h], spot.call[h]}[what % 10];
        }

        int sheet(int s, int b, int n) {
            if (s < 0 || s > 3 || !List.of(0, 8, 16, 64).contains(b)) return f(BEYOND);
            if (n < 0) return f(SIZE);
            if (n > 40) return f(BEYOND);
            bits[s] = b;
            sheets[s] = new long[b == 0 ? 0 : n];
            return sheets[s].length;
        }

        long write(int s, int i, long v) {
            if (s < 0 || s > 3) return f(BEYOND);
            if (bits[s] == 0) return f(MISSING);
            if (i < 0 || i >= sheets[s].length) return f(BEYOND);
            long was = sheets[s][i];
            sheets[s][i] = v << (64 - bits[s]) >> (64 - bits[s]);
            return was;
        }

        int copy(int s, int from, int t, int to, int n) {
            if (s < 0 || s > 3 || t < 0 || t > 3) return f(BEYOND);
            if (bits[s] == 0 || bits[t] == 0) return f(MISSING);
            if (bits[s] != bits[t]) return f(KIND);
            if (from < 0 || to < 0 || n < 0 || (long) from + n > sheets[s].length || (long) to + n > sheets[t].length) return f(BEYOND);
            long[] were = sheets[s].clone();
            for (int i = 0; i < n; i++) sheets[t][to + i] = were[from + i];
            return n;
        }

        int lead(int s) {
            if (s < 0 || s > 3) return f(BEYOND);
            Graph g = graph();
            if (g.tooLarge) return f(SIZE);
            if (g.bad.isEmpty()) return f(NONE);
            List<Integer> t = g.turn(world());
            if (t.size() > 40) return f(FULL);
            bits[s] = 8;
            sheets[s] = new long[t.size()];
            for (int i = 0; i < t.size(); i++) sheets[s][i] = t.get(i);
            return t.size();
        }

        List<List<Op>> copyCalls(List<List<Op>> from) {
            List<List<Op>> all = new ArrayList<>();
            for (List<Op> ops : from) {
                List<Op> copy = new ArrayList<>();
                for (Op o : ops) {
                    Op c = new Op();
                    c.kind = o.kind;
                    c.cell = o.cell;
                    c.value = o.value;
                    c.second = o.second;
                    c.goalPlace = o.goalPlace;
                    copy.add(c);
                    if (o.goal != null) c.goal = copy.get(o.goalPlace);
                }
                all.add(copy);
            }
            return all;
        }

        int image() {
            keptCalls = copyCalls(calls);
            keptHands = new ArrayList<>(hands);
            keptFirst = first.clone();
            keptMachine = machine;
            return 1;
        }

        int undo() {
            if (keptCalls == null) return f(NONE);
            calls = copyCalls(keptCalls);
            hands = new ArrayList<>(keptHands);
            first = keptFirst.clone();
            machine = keptMachine;
            return calls.size();
        }

        int tear() {
            int was = keptCalls == null ? 0 : 1;
            keptCalls = null;
            return was;
        }

        int look(int what) {
            if (what < 0 || what > 6) return f(BEYOND);
            return new int[] {calls.size(), hands.size(), machine, first[0], first[1], first[2], tape.length()}[what];
        }

        int status(int which) {
            if (which < -1 || which > 6) return f(BEYOND);
            return which == -1 ? Arrays.stream(counts).sum() : counts[which];
        }
    }

    private static int wrong = 0;
    private static int compared = 0;
    private static final Map<String, Integer> seen = new HashMap<>();
    private static List<String> log = new ArrayList<>();

    private static void same(int seed, String call, long got, long want) {
        compared++;
        log.add(call + " -> " + got);
        String name = call.substring(0, call.indexOf('('));
        String kind = want <= SIZE + 6 && want >= SIZE ? name + " " + want : name;
        seen.merge(kind, 1, Integer::sum);
        if (got != want) {
            if (wrong++ < 20) {
                System.out.println("seed " + seed + ": " + call + " answered " + got + ", the model " + want);
                System.out.println("  after " + log);
            }
        }
    }

    /** A number that is mostly within 0 to n - 1, now and then right outside, seldom far off. */
    private static int near(Random r, int n) {
        int dice = r.nextInt(40);
        if (dice == 0) return -1;
        if (dice == 1) return n;
        if (dice == 2) return new int[] {Integer.MIN_VALUE, Integer.MAX_VALUE, -2, n + 1, 1000}[r.nextInt(5)];
        return n <= 0 ? 0 : r.nextInt(n);
    }

    private static String stepText(Random r, int place, boolean loops) {
        int c = r.nextInt(10) < 6 ? 0 : r.nextInt(3);
        switch (r.nextInt(loops ? 10 : 8)) {
            case 0: return "read " + c;
            case 1: return "write " + c;
            case 2: return "put " + c + " " + r.nextInt(4);
            case 3: return "swap " + c + " " + r.nextInt(2) + " " + r.nextInt(4);
            case 4: return "add " + c + " " + r.nextInt(4);
            case 5: return r.nextInt(3) == 0 ? "fence" : "read " + c;
            case 6: return "set " + r.nextInt(4);
            case 7: return r.nextBoolean() ? "keep" : "put " + c + " " + r.nextInt(4);
            default: return "again " + r.nextInt(place + 1);
        }
    }

    private static String callText(Random r, int most, boolean loops) {
        StringBuilder t = new StringBuilder();
        int n = 1 + r.nextInt(most);
        for (int i = 0; i < n; i++) {
            if (i > 0) t.append(r.nextInt(4) == 0 ? " ; " : ";");
            t.append(stepText(r, i, loops));
        }
        String text = t.toString();
        if (r.nextInt(4) == 0) text = text.replace(" ", r.nextBoolean() ? "" : "  ");
        if (r.nextInt(6) == 0) {
            int at = r.nextInt(text.length() + 1);
            String odd = List.of("", ";", "x", "9", " ", "#", "\u00e9", "\t", "A", "00", "put", "3 ").get(r.nextInt(12));
            text = text.substring(0, at) + odd + text.substring(Math.min(text.length(), at + r.nextInt(2)));
        }
        return text;
    }

    private static void feedText(int seed, Random r, ManyHands x, Model m, String text) {
        for (int at = 0; at < text.length();) {
            int n = Math.min(1 + r.nextInt(4), text.length() - at);
            int packed = r.nextInt(2) == 0 ? 0 : r.nextInt();
            for (int i = 0; i < n; i++) packed = packed << 8 | text.charAt(at + i);
            same(seed, "feed(" + packed + ", " + n + ")", x.feed(packed, n), m.feed(packed, n));
            at += n;
        }
    }

    private static void newCall(int seed, Random r, ManyHands x, Model m, int most, boolean loops) {
        String text = callText(r, most, loops);
        feedText(seed, r, x, m, text);
        same(seed, "text() [" + text + "]", x.text(), m.text());
        if (m.tape.length() > 0 && r.nextInt(5) != 0) same(seed, "wipe()", x.wipe(), m.wipe());
    }

    private static void tellTurn(int seed, Random r, ManyHands x, Model m) {
        int s = r.nextInt(4);
        int b = new int[] {8, 16, 64}[r.nextInt(3)];
        int n = r.nextInt(r.nextInt(3) == 0 ? 41 : 14);
        same(seed, "sheet(" + s + "," + b + "," + n + ")", x.sheet(s, b, n), m.sheet(s, b, n));
        World w = m.world();
        Spot spot = w.start();
        for (int i = 0; i < n; i++) {
            int number = NUMBERS[r.nextInt(6)];
            for (int tries = 0; tries < 12 && w.move(spot, number, w.late) == null; tries++) number = NUMBERS[r.nextInt(6)];
            long v = r.nextInt(60) == 0 ? r.nextLong() : r.nextInt(60) == 0 ? number + (1L << 32) : number;
            same(seed, "write(" + s + "," + i + "," + v + ")", x.write(s, i, v), m.write(s, i, v));
            Spot next = w.move(spot, number, w.late);
            if (next == null) {
                if (r.nextInt(3) != 0) {
                    same(seed, "sheet", s, i, b, x, m);
                }
                return;
            }
            spot = next;
        }
    }

    /** Shortens the sheet to what was told of it, through another one. */
    private static void same(int seed, String name, int s, int n, int b, ManyHands x, Model m) {
        int t = (s + 1) % 4;
        same(seed, "sheet(" + t + "," + b + "," + n + ")", x.sheet(t, b, n), m.sheet(t, b, n));
        same(seed, "copy(" + s + ",0," + t + ",0," + n + ")", x.copy(s, 0, t, 0, n), m.copy(s, 0, t, 0, n));
    }

    private static void askTurns(int seed, Random r, ManyHands x, Model m) {
        int i = near(r, 4);
        int s = near(r, 4);
        switch (r.nextInt(16)) {
            case 0: same(seed, "states()", x.states(), m.states()); break;
            case 1: same(seed, "ends()", x.ends(), m.ends()); break;
            case 2: same(seed, "result(" + i + ")", x.result(i), m.result(i)); break;
            case 3: same(seed, "orders()", x.orders(), m.orders()); break;
            case 4: same(seed, "inOrder(" + i + ")", x.inOrder(i), m.inOrder(i)); break;
            case 5: same(seed, "bad()", x.bad(), m.bad()); break;
            case 6: same(seed, "worst()", x.worst(), m.worst()); break;
            case 7: {
                int k = near(r, 12) - 1;
                same(seed, "turn(" + k + ")", x.turn(k), m.turn(k));
                break;
            }
            case 8: {
                int length = m.turn(-1);
                m.counts[NONE_INDEX] -= length == NONE ? 1 : 0;
                m.counts[SIZE_INDEX] -= length == SIZE ? 1 : 0;
                for (int k = -1; k < length + 1; k++) same(seed, "turn(" + k + ")", x.turn(k), m.turn(k));
                break;
            }
            case 9: same(seed, "stuck()", x.stuck(), m.stuck()); break;
            case 10: same(seed, "round()", x.round(), m.round()); break;
            case 11: {
                int c = near(r, m.calls.size());
                int k = near(r, m.is(c) ? m.calls.get(c).size() : 3);
                same(seed, "heal(" + c + "," + k + ")", x.heal(c, k), m.heal(c, k));
                break;
            }
            case 12:
                if (r.nextInt(4) == 0) same(seed, "fences()", x.fences(), m.fences());
                break;
            case 13:
                same(seed, "lead(" + s + ")", x.lead(s), m.lead(s));
                same(seed, "cost(" + s + ")", x.cost(s), m.cost(s));
                same(seed, "judge(" + s + ")", x.judge(s), m.judge(s));
                break;
            default: askTold(seed, r, x, m);
        }
    }

    private static void askTold(int seed, Random r, ManyHands x, Model m) {
        if (r.nextInt(3) == 0) tellTurn(seed, r, x, m);
        int s = near(r, 4);
        int what = r.nextInt(4) == 0 ? near(r, 3) : 10 * (1 + r.nextInt(3)) + near(r, 5);
        same(seed, "cost(" + s + ")", x.cost(s), m.cost(s));
        same(seed, "played(" + s + ")", x.played(s), m.played(s));
        same(seed, "judge(" + s + ")", x.judge(s), m.judge(s));
        same(seed, "moves(" + s + ")", x.moves(s), m.moves(s));
        same(seed, "after(" + s + "," + what + ")", x.after(s, what), m.after(s, what));
    }

    private static void askSmall(int seed, Random r, ManyHands x, Model m) {
        int c = near(r, m.calls.size());
        int k = near(r, m.is(c) ? m.calls.get(c).size() : 3);
        int v = near(r, 4);
        int w = near(r, 8);
        int s = near(r, 4);
        int t = near(r, 4);
        int n = near(r, r.nextBoolean() ? 6 : 41);
        switch (r.nextInt(18)) {
            case 0: same(seed, "steps(" + c + ")", x.steps(c), m.steps(c)); break;
            case 1: same(seed, "step(" + c + "," + k + "," + v + ")", x.step(c, k, v), m.step(c, k, v)); break;
            case 2: same(seed, "as(" + c + "," + k + "," + w + ")", x.as(c, k, w), m.as(c, k, w)); break;
            case 3: same(seed, "change(" + c + "," + k + "," + v + ")", x.change(c, k, v), m.change(c, k, v)); break;
            case 4: same(seed, "cell(" + (w - 1) + "," + v + ")", x.cell(w - 1, v), m.cell(w - 1, v)); break;
            case 5: {
                int which = near(r, 2);
                same(seed, "machine(" + which + ")", x.machine(which), m.machine(which));
                break;
            }
            case 6: {
                int then = r.nextInt(2) - 1 == -1 ? -1 : near(r, m.calls.size());
                same(seed, "hand(" + c + "," + then + ")", x.hand(c, then), m.hand(c, then));
                break;
            }
            case 7:
                if (r.nextInt(4) == 0) {
                    same(seed, "clear()", x.clear(), m.clear());
                    for (int i = 0; i < r.nextInt(3); i++) same(seed, "hand(" + c + ",-1)", x.hand(c, -1), m.hand(c, -1));
                }
                break;
            case 8: {
                int b = new int[] {0, 8, 16, 64, 32, -8}[r.nextInt(6)];
                int size = near(r, 41);
                same(seed, "sheet(" + s + "," + b + "," + size + ")", x.sheet(s, b, size), m.sheet(s, b, size));
                break;
            }
            case 9: {
                long big = r.nextBoolean() ? r.nextLong() : r.nextInt(400) - 200;
                same(seed, "write(" + s + "," + n + "," + big + ")", x.write(s, n, big), m.write(s, n, big));
                break;
            }
            case 10:
            case 11: {
                int to = near(r, 6);
                int size = near(r, 8);
                int from = near(r, 6);
                same(seed, "copy(" + s + "," + from + "," + t + "," + to + "," + size + ")", x.copy(s, from, t, to, size), m.copy(s, from, t, to, size));
                break;
            }
            case 12: same(seed, "image()", x.image(), m.image()); break;
            case 13:
                if (m.keptHands == null || !m.keptHands.isEmpty() || r.nextInt(4) == 0) same(seed, "undo()", x.undo(), m.undo());
                break;
            case 14:
                if (r.nextInt(4) == 0) same(seed, "tear()", x.tear(), m.tear());
                break;
            case 15: same(seed, "look(" + w + ")", x.look(w), m.look(w)); break;
            case 16: same(seed, "status(" + (w - 1) + ")", x.status(w - 1), m.status(w - 1)); break;
            default: {
                int bytes = r.nextInt();
                int k4 = near(r, 5);
                same(seed, "feed(" + bytes + "," + k4 + ")", x.feed(bytes, k4), m.feed(bytes, k4));
                for (int i = 0; i < 40 && bytes % 8 == 0; i++) same(seed, "feed(" + bytes + ",4)", x.feed(bytes, 4), m.feed(bytes, 4));
                if (r.nextInt(3) != 0 || bytes % 8 == 0) same(seed, "wipe()", x.wipe(), m.wipe());
            }
        }
    }

    private static void run(int seed) {
        Random r = new Random(seed);
        ManyHands x = new ManyHands();
        Model m = new Model();
        log = new ArrayList<>();
        boolean large = seed % 12 == 0;
        boolean loops = r.nextInt(3) == 0;
        int most = large ? 7 : 2 + r.nextInt(4);
        int calls = 1 + r.nextInt(4);
        for (int i = 0; i < 12 && m.calls.size() < calls; i++) newCall(seed, r, x, m, most, loops);
        int late = r.nextInt(3) == 0 ? 0 : 1;
        same(seed, "machine(" + late + ")", x.machine(late), m.machine(late));
        int hands = large || most == 2 ? 3 : r.nextInt(8) == 0 ? 1 : 2;
        for (int i = 0; i < hands; i++) {
            int c = r.nextInt(Math.max(1, m.calls.size()));
            int then = r.nextInt(4) == 0 ? r.nextInt(Math.max(1, m.calls.size())) : -1;
            same(seed, "hand(" + c + "," + then + ")", x.hand(c, then), m.hand(c, then));
        }
        int rows = large ? 12 : 60;
        for (int i = 0; i < rows; i++) {
            int dice = r.nextInt(20);
            if (dice < 14) askTurns(seed, r, x, m);
            else if (dice < 19) askSmall(seed, r, x, m);
            else newCall(seed, r, x, m, most, loops);
        }
        for (int which = -1; which <= 6; which++) {
            same(seed, "status(" + which + ")", x.status(which), m.status(which));
        }
    }

    public static void main(String[] args) {
        int seeds = args.length > 0 ? Integer.parseInt(args[0]) : 1500;
        int from = args.length > 1 ? Integer.parseInt(args[1]) : 0;
        for (int seed = from; seed < from + seeds; seed++) {
            run(seed);
        }
        if (args.length > 0) {
            new java.util.TreeMap<>(seen).forEach((k, v) -> System.out.println(k + ": " + v));
        }
        System.out.println(compared + " answers compared, " + wrong + " unlike");
        if (wrong != 0) System.exit(1);
    }
}
