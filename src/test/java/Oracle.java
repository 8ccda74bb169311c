import java.util.ArrayList;
import java.util.Arrays;
import java.util.HashMap;
import java.util.List;
import java.util.Map;

/**
 * The document told a second time, as plainly and as slowly as it can be: sets of Z as rows of
 * booleans, costs as rows of numbers, sets of logs by trying them all. Tests hold ShipSkins against it.
 */
final class Oracle {
    static final int NONE = -1;
    private static final int DAYS = 120;
    private static final int ZS = 1001;
    private static final long NEVER = Long.MAX_VALUE / 8;

    private static final class Leg {
        int ship, day, sea, speed, wind, load;
    }

    private static final class Log implements Cloneable {
        int ship, day, number, reach, worth, known;
        boolean look, out;

        Log copy() {
            try {
                return (Log) clone();
            } catch (CloneNotSupportedException e) {
                throw new IllegalStateException(e);
            }
        }
    }

    private static final class World {
        List<Integer> bases = new ArrayList<>();
        List<Leg> legs = new ArrayList<>();
        Map<Integer, Map<Integer, Integer>> cleaned = new HashMap<>();
        List<Log> logs = new ArrayList<>();
        int[][][] table = new int[2][6][2];
        int price = 1, fee = 100;
        long[] seal;

        World copy() {
            World w = new World();
            w.bases = new ArrayList<>(bases);
            w.legs = new ArrayList<>(legs);
            for (int s : cleaned.keySet()) w.cleaned.put(s, new HashMap<>(cleaned.get(s)));
            for (Log l : logs) w.logs.add(l.copy());
            for (int i = 0; i < 2; i++) for (int j = 0; j < 6; j++) w.table[i][j] = table[i][j].clone();
            w.price = price;
            w.fee = fee;
            w.seal = seal == null ? null : seal.clone();
            return w;
        }
    }

    private World world = new World();
    private final World[] images = new World[2];
    private final List<Integer> calls = new ArrayList<>();
    private final List<Integer> tape = new ArrayList<>();
    private int fault = NONE, status = 0;
    private List<Integer> right;
    private String proof;
    private int[] curve;
    private List<Integer> hidden;
    /** Whether each pair of logs quarrels is dear to find here: kept until something is told. */
    private final Map<Integer, Boolean> quarrelMemo = new HashMap<>();

    Oracle() {
        for (int at = 0; at < 6; at++) {
            world.table[0][at] = new int[] {0, 10};
            world.table[1][at] = new int[] {-10, 0};
        }
    }

    private static boolean in(int x, int a, int b) {
        return a <= x && x <= b;
    }

    private static boolean day(int d) {
        return in(d, 0, 119);
    }

    private int told(int answer) {
        status = Math.min(answer, 0);
        quarrelMemo.clear();
        return answer;
    }

    private boolean noShip(int s) {
        return s < 0 || s >= world.bases.size();
    }

    private boolean noLog(int l) {
        return l < 0 || l >= world.logs.size();
    }

    int table(int which, int at, int low, int high) {
        if (which != 0 && which != 1) return told(-1);
        if (at < 0 || at > (which == 0 ? 5 : 3)) return told(-1);
        if (!in(low, -100, 100) || !in(high, -100, 100) || low > high) return told(-1);
        world.table[which][at] = new int[] {low, high};
        return told(0);
    }

    int ship(int base) {
        if (!in(base, 0, 1000)) return told(-1);
        if (world.bases.size() == 3) return told(-5);
        world.bases.add(base);
        return told(world.bases.size() - 1);
    }

    int leg(int ship, int day, int sea, int speed, int wind, int load) {
        if (!day(day) || !in(sea, 0, 5) || !in(speed, 0, 30) || !in(wind, 0, 20) || !in(load, 0, 100)) return told(-1);
        if (noShip(ship)) return told(-2);
        if (world.legs.size() == 60) return told(-5);
        Leg l = new Leg();
        l.ship = ship;
        l.day = day;
        l.sea = sea;
        l.speed = speed;
        l.wind = wind;
        l.load = load;
        world.legs.add(l);
        return told(world.legs.size());
    }

    private int cleanings() {
        int n = 0;
        for (Map<Integer, Integer> m : world.cleaned.values()) n += m.size();
        return n;
    }

    int cleaned(int ship, int day, int left) {
        if (!day(day) || !in(left, 0, 1000)) return told(-1);
        if (noShip(ship)) return told(-2);
        if (cleanedOf(ship).containsKey(day)) return told(-4);
        if (cleanings() == 40) return told(-5);
        world.cleaned.computeIfAbsent(ship, k -> new HashMap<>()).put(day, left);
        return told(cleanings());
    }

    private Map<Integer, Integer> cleanedOf(int ship) {
        return world.cleaned.getOrDefault(ship, Map.of());
    }

    int terms(int price, int fee) {
        if (!in(price, 0, 1000) || !in(fee, 0, 100000)) return told(-1);
        world.price = price;
        world.fee = fee;
        return told(0);
    }

    int log(int ship, int day, int fuel, int off, int worth, int known) {
        if (!day(day) || !in(fuel, 0, 100000) || !in(off, 0, 1000) || !in(worth, 1, 100) || !day(known)) return told(-1);
        if (noShip(ship)) return told(-2);
        if (legOf(ship, day).speed == 0) return told(-3);
        return add(ship, day, fuel, off, worth, known, false);
    }

    int look(int ship, int day, int low, int high, int worth, int known) {
        if (!day(day) || !in(low, 0, 1000) || !in(high, 0, 1000) || low > high) return told(-1);
        if (!in(worth, 1, 100) || !day(known)) return told(-1);
        if (noShip(ship)) return told(-2);
        return add(ship, day, low, high, worth, known, true);
    }

    private int add(int ship, int day, int number, int reach, int worth, int known, boolean look) {
        if (world.logs.size() == 24) return told(-5);
        Log l = new Log();
        l.ship = ship;
        l.day = day;
        l.number = number;
        l.reach = reach;
        l.worth = worth;
        l.known = known;
        l.look = look;
        world.logs.add(l);
        return told(world.logs.size() - 1);
    }

    private Leg legOf(int ship, int day) {
        Leg best = new Leg();
        best.day = -1;
        for (Leg l : world.legs) if (l.ship == ship && l.day <= day && l.day >= best.day) best = l;
        return best;
    }

    private int[] portions(int ship, int day, int z) {
        Leg l = legOf(ship, day);
        int v = l.speed;
        return new int[] {v * v * world.bases.get(ship), l.wind * l.wind * v, l.load * v, v * v * z};
    }

    private int fuel(int ship, int day, int z) {
        return Arrays.stream(portions(ship, day, z)).sum() / 100;
    }

    private int skin(int ship, int day, int z) {
        int v = legOf(ship, day).speed;
        return v * v * z / 100;
    }

    /** Every Z that the log is read as. */
    private boolean[] read(Log l) {
        boolean[] zs = new boolean[ZS];
        boolean rest = legOf(l.ship, l.day).speed == 0;
        int f0 = rest ? 0 : Arrays.stream(portions(l.ship, l.day, 0)).sum();
        int v = legOf(l.ship, l.day).speed;
        for (int z = 0; z < ZS; z++) {
            if (l.look) {
                zs[z] = l.number <= z && z <= l.reach;
            } else {
                int f = (f0 + v * v * z) / 100;
                zs[z] = !rest && f >= l.number - l.reach && f <= l.number + l.reach;
            }
        }
        return zs;
    }

    private static int first(boolean[] zs) {
        for (int z = 0; z < ZS; z++) if (zs[z]) return z;
        return NONE;
    }

    private static int last(boolean[] zs) {
        for (int z = ZS - 1; z >= 0; z--) if (zs[z]) return z;
        return NONE;
    }

    private boolean readable(int log) {
        return first(read(world.logs.get(log))) != NONE;
    }

    int of(int log, int what) {
        if (noLog(log)) return NONE;
        Log l = world.logs.get(log);
        return switch (what) {
            case 0 -> l.ship;
            case 1 -> l.day;
            case 2 -> first(read(l));
            case 3 -> last(read(l));
            case 4 -> l.worth;
            case 5 -> l.known;
            case 6 -> l.out ? 1 : 0;
            default -> NONE;
        };
    }

    int leave(int log, int out) {
        if (out != 0 && out != 1) return told(-1);
        if (noLog(log)) return told(-2);
        world.logs.get(log).out = out == 1;
        return told(0);
    }

    /** LOW and HIGH from a day to the next one, null without. */
    private int[] lawOf(int ship, int day) {
        if (cleanedOf(ship).containsKey(day + 1)) return null;
        Leg l = legOf(ship, day);
        return l.speed == 0 ? world.table[0][l.sea] : world.table[1][l.speed / 8];
    }

    int law(int ship, int day, int what) {
        if (noShip(ship) || !in(day, 0, 118) || (what != 0 && what != 1)) return -1000;
        int[] law = lawOf(ship, day);
        return law == null ? -1000 : law[what];
    }

    int share(int ship, int day, int z, int what) {
        if (noShip(ship) || !day(day) || !in(z, 0, 1000) || !in(what, 0, 4)) return NONE;
        if (legOf(ship, day).speed == 0) return 0;
        if (what == 4) return fuel(ship, day, z);
        int[] p = portions(ship, day, z);
        int[] share = new int[4];
        int rest = fuel(ship, day, z);
        for (int i = 0; i < 4; i++) {
            share[i] = p[i] / 100;
            rest -= share[i];
        }
        boolean[] had = new boolean[4];
        for (; rest > 0; rest--) {
            int best = -1;
            for (int i = 0; i < 4; i++) if (!had[i] && (best < 0 || p[i] % 100 > p[best] % 100)) best = i;
            had[best] = true;
            share[best]++;
        }
        return share[what];
    }

    private List<Integer> counting(int ship, int known) {
        List<Integer> list = new ArrayList<>();
        for (int i = 0; i < world.logs.size(); i++) {
            Log l = world.logs.get(i);
            if (l.ship == ship && l.known <= known && !l.out && readable(i)) list.add(i);
        }
        return list;
    }

    /** For each day each Z that is on a curve which meets these logs; null if there is no curve. */
    private boolean[][] alive(int ship, List<Integer> logs) {
        boolean[][] ahead = new boolean[DAYS][], behind = new boolean[DAYS][];
        boolean[][] allowed = new boolean[DAYS][ZS];
        for (int d = 0; d < DAYS; d++) {
            Arrays.fill(allowed[d], 0, cleanedOf(ship).getOrDefault(d, 1000) + 1, true);
            for (int i : logs) {
                if (world.logs.get(i).day == d) {
                    boolean[] zs = read(world.logs.get(i));
                    for (int z = 0; z < ZS; z++) allowed[d][z] &= zs[z];
                }
            }
        }
        for (int d = 0; d < DAYS; d++) {
            int[] law = d == 0 ? null : lawOf(ship, d - 1);
            ahead[d] = step(d == 0 ? null : ahead[d - 1], allowed[d], law == null ? null : new int[] {-law[1], -law[0]});
        }
        for (int d = DAYS - 1; d >= 0; d--) {
            int[] law = d == DAYS - 1 ? null : lawOf(ship, d);
            behind[d] = step(d == DAYS - 1 ? null : behind[d + 1], allowed[d], law);
        }
        boolean[][] both = new boolean[DAYS][ZS];
        for (int d = 0; d < DAYS; d++) {
            for (int z = 0; z < ZS; z++) both[d][z] = ahead[d][z] && behind[d][z];
            if (first(both[d]) == NONE) return null;
        }
        return both;
    }

    /** Which allowed Z have a neighbour from z + reach[0] to z + reach[1]; any, if reach is null. */
    private static boolean[] step(boolean[] near, boolean[] allowed, int[] reach) {
        boolean[] out = new boolean[ZS];
        int[] upTo = new int[ZS + 1];
        for (int z = 0; z < ZS; z++) upTo[z + 1] = upTo[z] + (near == null || near[z] ? 1 : 0);
        for (int z = 0; z < ZS; z++) {
            int a = reach == null ? 0 : Math.max(0, z + reach[0]);
            int b = reach == null ? ZS - 1 : Math.min(ZS - 1, z + reach[1]);
            out[z] = allowed[z] && a <= b && upTo[b + 1] - upTo[a] > 0;
        }
        return out;
    }

    private boolean cannotAsk(int ship, int known) {
        return noShip(ship) || !day(known);
    }

    int span(int ship, int day, int known, int what) {
        if (cannotAsk(ship, known) || !day(day) || !in(what, 0, 1)) return NONE;
        boolean[][] alive = alive(ship, counting(ship, known));
        return alive == null ? NONE : what == 0 ? first(alive[day]) : last(alive[day]);
    }

    int why(int ship, int day, int known, int what) {
        int end = span(ship, day, known, what);
        if (end == NONE) return NONE;
        boolean[][] alone = alive(ship, List.of());
        if ((what == 0 ? first(alone[day]) : last(alone[day])) == end) return NONE;
        for (int i : counting(ship, known)) {
            alone = alive(ship, List.of(i));
            if ((what == 0 ? first(alone[day]) : last(alone[day])) == end) return i;
        }
        return NONE;
    }

    private static boolean stretch(int from, int to) {
        return day(from) && day(to) && from <= to;
    }

    long lost(int ship, int from, int to, int known, int what) {
        if (cannotAsk(ship, known) || !stretch(from, to) || !in(what, 0, 1)) return NONE;
        boolean[][] alive = alive(ship, counting(ship, known));
        if (alive == null) return NONE;
        long sum = 0;
        for (int d = from; d <= to; d++) sum += skin(ship, d, what == 0 ? first(alive[d]) : last(alive[d]));
        return sum;
    }

    int widest(int ship, int from, int to, int known) {
        if (cannotAsk(ship, known) || !stretch(from, to)) return NONE;
        boolean[][] alive = alive(ship, counting(ship, known));
        if (alive == null) return NONE;
        int best = NONE, width = -1;
        for (int d = from; d <= to; d++) {
            int w = last(alive[d]) - first(alive[d]);
            if (w > width) {
                width = w;
                best = d;
            }
        }
        return best;
    }

    private boolean quarrelling(int a, int b) {
        int key = Math.min(a, b) * 24 + Math.max(a, b);
        Boolean memo = quarrelMemo.get(key);
        if (memo == null) {
            memo = alive(world.logs.get(a).ship, a == b ? List.of(a) : List.of(a, b)) == null;
            quarrelMemo.put(key, memo);
        }
        return memo;
    }

    int quarrels(int ship, int known, int i) {
        if (cannotAsk(ship, known) || i < NONE) return NONE;
        List<Integer> logs = counting(ship, known), found = new ArrayList<>();
        for (int a : logs) for (int b : logs) if (a <= b && quarrelling(a, b)) found.add(a * 24 + b);
        return i == NONE ? found.size() : i < found.size() ? found.get(i) : NONE;
    }

    int quarrel(int a, int b) {
        if (noLog(a) || noLog(b) || !readable(a) || !readable(b)) return NONE;
        if (world.logs.get(a).ship != world.logs.get(b).ship) return 0;
        return quarrelling(a, b) ? 1 : 0;
    }

    private List<Integer> sound(int ship, int known) {
        List<Integer> list = new ArrayList<>();
        for (int i : counting(ship, known)) if (!quarrelling(i, i)) list.add(i);
        return list;
    }

    private int worth(List<Integer> set) {
        int all = 0;
        for (int i : set) all += world.logs.get(i).worth;
        return all;
    }

    /** Tries every set without quarrel. */
    private List<Integer> worthiest(List<Integer> candidates, int at, List<Integer> chosen, List<Integer> best) {
        if (at == candidates.size()) return best == null || better(chosen, best) ? new ArrayList<>(chosen) : best;
        int log = candidates.get(at);
        boolean fits = true;
        for (int i : chosen) fits &= !quarrelling(i, log);
        if (fits) {
            chosen.add(log);
            best = worthiest(candidates, at + 1, chosen, best);
            chosen.remove(chosen.size() - 1);
        }
        boolean needed = false;
        for (int i = 0; i < candidates.size(); i++) needed |= i != at && quarrelling(candidates.get(i), log);
        return needed || !fits ? worthiest(candidates, at + 1, chosen, best) : best;
    }

    private boolean better(List<Integer> a, List<Integer> b) {
        if (worth(a) != worth(b)) return worth(a) > worth(b);
        if (a.size() != b.size()) return a.size() > b.size();
        for (int i = 0; i < 24; i++) if (a.contains(i) != b.contains(i)) return a.contains(i);
        return false;
    }

    private List<Integer> worthiest(int ship, int known) {
        return worthiest(sound(ship, known), 0, new ArrayList<>(), null);
    }

    int right(int ship, int known) {
        if (cannotAsk(ship, known)) return NONE;
        right = worthiest(ship, known);
        return worth(right);
    }

    int isRight(int log) {
        return right == null || noLog(log) ? NONE : right.contains(log) ? 1 : 0;
    }

    private List<List<Integer>> groups(List<Integer> open) {
        List<List<Integer>> groups = new ArrayList<>();
        List<Integer> free = new ArrayList<>(open);
        while (!free.isEmpty()) {
            List<Integer> group = new ArrayList<>();
            for (int i : free) {
                boolean all = true;
                for (int j : group) all &= quarrelling(i, j);
                if (all) group.add(i);
            }
            free.removeAll(group);
            groups.add(group);
        }
        return groups;
    }

    private void write(StringBuilder text, int kept, List<Integer> open, int w) {
        if (text.length() > 2000) return;
        int bound = kept;
        for (List<Integer> g : groups(open)) {
            int top = 0;
            for (int i : g) top = Math.max(top, world.logs.get(i).worth);
            bound += top;
        }
        if (bound <= w) {
            text.append('[');
            for (List<Integer> g : groups(open)) {
                if (g.size() > 1) {
                    StringBuilder row = new StringBuilder();
                    for (int i : g) row.append(row.length() == 0 ? "" : ",").append(i);
                    text.append(row).append(';');
                }
            }
            text.append(']');
            return;
        }
        int pick = NONE, most = -1;
        for (int i : open) {
            int n = 0;
            for (int j : open) if (quarrelling(i, j)) n++;
            if (n > most) {
                most = n;
                pick = i;
            }
        }
        text.append('(').append(pick);
        write(text, kept + world.logs.get(pick).worth, without(open, pick, true), w);
        write(text, kept, without(open, pick, false), w);
        text.append(')');
    }

    private List<Integer> without(List<Integer> open, int pick, boolean foesToo) {
        List<Integer> list = new ArrayList<>();
        for (int i : open) if (i != pick && !(foesToo && quarrelling(i, pick))) list.add(i);
        return list;
    }

    int prove(int ship, int known) {
        if (cannotAsk(ship, known)) return NONE;
        StringBuilder text = new StringBuilder();
        write(text, 0, sound(ship, known), worth(worthiest(ship, known)));
        if (text.length() > 2000) return NONE;
        proof = text.toString();
        return proof.length();
    }

    int proof(int i) {
        return proof == null || i < 0 || i >= proof.length() ? NONE : proof.charAt(i);
    }

    String proofText() {
        return proof;
    }

    int feed(int a, int b, int c, int d, int e) {
        if (tape.size() + 20 > 400) return NONE;
        for (int n : new int[] {a, b, c, d, e}) {
            tape.add(n >>> 24);
            tape.add(n >>> 16 & 255);
            tape.add(n >>> 8 & 255);
            tape.add(n & 255);
        }
        return tape.size();
    }

    int end(int n) {
        if (n < 0 || n > tape.size()) return NONE;
        while (tape.size() > n) tape.remove(tape.size() - 1);
        return n;
    }

    /** The tape as tokens: a text each, with the place where it begins. */
    private final List<String> tokens = new ArrayList<>();
    private final List<Integer> places = new ArrayList<>();
    private int token;

    private static final class Fault extends RuntimeException {
        private static final long serialVersionUID = 1;
    }

    private void tokenize() {
        tokens.clear();
        places.clear();
        token = 0;
        boolean digits = false;
        for (int i = 0; i < tape.size(); i++) {
            char c = (char) (int) tape.get(i);
            boolean digit = c >= '0' && c <= '9';
            if (digit && digits) {
                tokens.set(tokens.size() - 1, tokens.get(tokens.size() - 1) + c);
            } else if (c != ' ') {
                tokens.add(String.valueOf(c));
                places.add(i);
            }
            digits = digit;
        }
        tokens.add("end");
        places.add(tape.size());
    }

    private boolean take(String wanted) {
        if (!tokens.get(token).equals(wanted)) return false;
        token++;
        return true;
    }

    private void need(boolean fine) {
        if (!fine) throw new Fault();
    }

    private int takeLog(List<Integer> open, List<Integer> barred, List<Integer> foes) {
        String text = tokens.get(token);
        need(text.matches("[0-9]+"));
        String bare = text.replaceFirst("^0+(?=.)", "");
        need(bare.length() <= 2);
        int log = Integer.parseInt(bare);
        need(open.contains(log) && !barred.contains(log));
        for (int i : foes) need(quarrelling(i, log));
        token++;
        return log;
    }

    private void readProof(int kept, List<Integer> open, int w, int depth) {
        need(depth <= 24);
        if (take("(")) {
            int log = takeLog(open, List.of(), List.of());
            readProof(kept + world.logs.get(log).worth, without(open, log, true), w, depth + 1);
            readProof(kept, without(open, log, false), w, depth + 1);
            need(take(")"));
            return;
        }
        need(take("["));
        List<Integer> used = new ArrayList<>();
        long all = kept;
        while (!tokens.get(token).equals("]")) {
            List<Integer> group = new ArrayList<>();
            int top = 0;
            do {
                int log = takeLog(open, used, group);
                used.add(log);
                group.add(log);
                top = Math.max(top, world.logs.get(log).worth);
            } while (take(","));
            need(take(";"));
            all += top;
        }
        for (int i : open) if (!used.contains(i)) all += world.logs.get(i).worth;
        need(all <= w);
        token++;
    }

    int check(int ship, int known, int w) {
        tokenize();
        tape.clear();
        if (cannotAsk(ship, known)) return NONE;
        try {
            readProof(0, sound(ship, known), w, 1);
            need(tokens.get(token).equals("end"));
            fault = NONE;
            return 1;
        } catch (Fault f) {
            fault = places.get(token);
            return 0;
        }
    }

    int fault() {
        return fault;
    }

    /** Costs of each Z on each day by logs that count. */
    private long[][] misses(int ship, int known) {
        long[][] cost = new long[DAYS][ZS];
        for (int i : counting(ship, known)) {
            Log l = world.logs.get(i);
            int a = first(read(l)), b = last(read(l));
            for (int z = 0; z < ZS; z++) cost[l.day][z] += (long) l.worth * Math.max(0, Math.max(a - z, z - b));
        }
        return cost;
    }

    /** The least of a row from a to b; NEVER if there is none. */
    private static long least(long[] row, int a, int b) {
        long best = NEVER;
        for (int z = Math.max(0, a); z <= Math.min(ZS - 1, b); z++) best = Math.min(best, row[z]);
        return best;
    }

    /** For each Z of a day the least cost from it on to the last day. */
    private long[][] costsToGo(int ship, long[][] cost) {
        long[][] go = new long[DAYS][ZS];
        for (int d = DAYS - 1; d >= 0; d--) {
            int cap = cleanedOf(ship).getOrDefault(d, 1000);
            int[] law = d == DAYS - 1 ? null : lawOf(ship, d);
            long any = d == DAYS - 1 ? 0 : least(go[d + 1], 0, 1000);
            for (int z = 0; z < ZS; z++) {
                long rest = law == null ? any : least(go[d + 1], z + law[0], z + law[1]);
                go[d][z] = z > cap || rest >= NEVER ? NEVER : cost[d][z] + rest;
            }
        }
        return go;
    }

    int miss(int ship, int known) {
        if (cannotAsk(ship, known)) return NONE;
        long[][] go = costsToGo(ship, misses(ship, known));
        long all = least(go[0], 0, 1000);
        if (all >= NEVER) return NONE;
        curve = new int[DAYS];
        for (int d = 0; d < DAYS; d++) {
            int[] law = d == 0 ? null : lawOf(ship, d - 1);
            int a = law == null ? 0 : Math.max(0, curve[d - 1] + law[0]);
            int b = law == null ? 1000 : Math.min(1000, curve[d - 1] + law[1]);
            int best = a;
            for (int z = a; z <= b; z++) if (go[d][z] < go[d][best]) best = z;
            curve[d] = best;
        }
        return (int) all;
    }

    int curve(int day) {
        return curve == null || !day(day) ? NONE : curve[day];
    }

    /** The row of the next day's least costs, by those of a day. */
    private long[] onward(int ship, long[] row, int day, long[][] cost) {
        int[] law = lawOf(ship, day - 1);
        long[] next = new long[ZS];
        long any = least(row, 0, 1000);
        for (int z = 0; z < ZS; z++) {
            long before = law == null ? any : least(row, z - law[1], z - law[0]);
            boolean no = before >= NEVER || z > cleanedOf(ship).getOrDefault(day, 1000);
            next[z] = no ? NEVER : before + cost[day][z];
        }
        return next;
    }

    private long[] cleanStart(int day, long before, long[][] cost) {
        long[] row = new long[ZS];
        Arrays.fill(row, NEVER);
        if (before < NEVER) row[0] = before + cost[day][0];
        return row;
    }

    int hidden(int ship, int known, int price) {
        if (cannotAsk(ship, known) || !in(price, 0, 100000)) return NONE;
        long[][] cost = misses(ship, known);
        long[][] go = costsToGo(ship, cost);
        long[] none = {least(go[0], 0, 1000)};
        List<Integer> best = new ArrayList<>();
        long[] row = new long[ZS];
        for (int z = 0; z < ZS; z++) row[z] = z > cleanedOf(ship).getOrDefault(0, 1000) ? NEVER : cost[0][z];
        long[] before = new long[DAYS];
        for (int d = 1; d < DAYS; d++) {
            before[d] = least(row, 0, 1000);
            row = onward(ship, row, d, cost);
        }
        for (int d = 1; d < DAYS; d++) {
            if (cleanedOf(ship).containsKey(d) || before[d] >= NEVER || go[d][0] >= NEVER) continue;
            if (before[d] + go[d][0] + price < none[0]) {
                none[0] = before[d] + go[d][0] + price;
                best = List.of(d);
            }
        }
        for (int a = 1; a < DAYS; a++) {
            if (cleanedOf(ship).containsKey(a) || before[a] >= NEVER) continue;
            row = cleanStart(a, before[a], cost);
            for (int b = a + 1; b < DAYS; b++) {
                long mid = least(row, 0, 1000);
                if (!cleanedOf(ship).containsKey(b) && mid < NEVER && go[b][0] < NEVER
                    && mid + go[b][0] + 2L * price < none[0]) {
                    none[0] = mid + go[b][0] + 2L * price;
                    best = List.of(a, b);
                }
                if (mid >= NEVER) break;
                row = onward(ship, row, b, cost);
            }
        }
        if (none[0] >= NEVER) return NONE;
        hidden = best;
        return (int) none[0];
    }

    int hid(int i) {
        return hidden == null || i < 0 || i >= hidden.size() ? NONE : hidden.get(i);
    }

    int call(int day) {
        if (!day(day)) return told(-1);
        if (calls.contains(day)) return told(-4);
        if (calls.size() == 7) return told(-5);
        calls.add(day);
        return told(calls.size());
    }

    int clear() {
        int n = calls.size();
        calls.clear();
        return n;
    }

    int plan(int ship, int from, int to, int known) {
        int best = NONE;
        for (int bits = 0; bits < 1 << calls.size(); bits++) {
            long cost = judge(ship, bits, from, to, known);
            if (cost == NONE) return NONE;
            long top = best == NONE ? NEVER : judge(ship, best, from, to, known);
            if (cost < top || cost == top && Integer.bitCount(bits) < Integer.bitCount(best)) best = bits;
        }
        return best;
    }

    long judge(int ship, int bits, int from, int to, int known) {
        if (cannotAsk(ship, known) || !stretch(from, to) || bits < 0 || bits >= 1 << calls.size()) return NONE;
        int top = span(ship, from, known, 1);
        if (top == NONE) return NONE;
        long cost = 0;
        int z = top;
        for (int d = from; d <= to; d++) {
            if (d > from) {
                int[] law = lawOf(ship, d - 1);
                z = law == null ? cleanedOf(ship).get(d) : Math.max(0, Math.min(1000, z + law[1]));
            }
            int i = calls.indexOf(d);
            if (i >= 0 && (bits >> i) % 2 == 1) {
                z = 0;
                cost += world.fee;
            }
            cost += (long) skin(ship, d, z) * world.price;
        }
        return cost;
    }

    private long[] sums() {
        long[] s = new long[3];
        for (int i = 0; i < world.logs.size(); i++) {
            s[0] += world.logs.get(i).number;
            s[1] += world.logs.get(i).number * (i + 1L);
        }
        s[2] = world.logs.size();
        return s;
    }

    int seal() {
        world.seal = sums();
        return world.logs.size();
    }

    int alter(int log, int mask) {
        if (!in(mask, 1, 255)) return told(-1);
        if (noLog(log)) return told(-2);
        world.logs.get(log).number ^= mask;
        return told(world.logs.get(log).number);
    }

    int found() {
        if (world.seal == null) return -3;
        if (world.logs.size() > world.seal[2]) return -2;
        long[] now = sums();
        if (now[0] == world.seal[0] && now[1] == world.seal[1]) return NONE;
        for (int i = 0; i < world.logs.size(); i++) {
            int was = world.logs.get(i).number;
            world.logs.get(i).number -= (int) (now[0] - world.seal[0]);
            long[] then = sums();
            world.logs.get(i).number = was;
            if (then[0] == world.seal[0] && then[1] == world.seal[1]) return i;
        }
        return -2;
    }

    int image(int k) {
        if (!in(k, 0, 1)) return told(-1);
        images[k] = world.copy();
        return told(0);
    }

    int back(int k) {
        if (!in(k, 0, 1)) return told(-1);
        if (images[k] == null) return told(-2);
        world = images[k].copy();
        return told(0);
    }

    int count(int what) {
        return switch (what) {
            case 0 -> world.bases.size();
            case 1 -> world.legs.size();
            case 2 -> cleanings();
            case 3 -> world.logs.size();
            case 4 -> calls.size();
            case 5 -> tape.size();
            case 6 -> proof == null ? 0 : proof.length();
            default -> NONE;
        };
    }

    int status() {
        return status;
    }
}
