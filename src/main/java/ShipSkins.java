/** What the skins of ships can have been, by logs, divers' looks and laws; ../shared/DOC.md has the promises. */
public final class ShipSkins {
    public static final int NONE = -1;

    private static final int NOTHING = -1000;
    private static final int DAYS = 120;
    private static final int SHIPS = 3;
    private static final int LEGS = 60;
    private static final int CLEANINGS = 40;
    private static final int LOGS = 24;
    private static final int CALLS = 7;
    private static final int IMAGES = 2;
    private static final int TOP = 1000;
    private static final int SEAS = 6;
    private static final int PACES = 4;
    private static final int PACE = 8;
    private static final int PORTIONS = 4;
    private static final int MOST_MONEY = 100000;
    private static final int MOST_FUEL = 100000;

    private static final int BAD_NUMBER = -1;
    private static final int NO_SUCH = -2;
    private static final int CANNOT_BE = -3;
    private static final int TWICE = -4;
    private static final int NO_ROOM = -5;

    private final Book book;
    private final Book[] images;
    private final boolean[] kept;
    private final Net net;
    private final Graph graph;
    private final Chooser chooser;
    private final Prover prover;
    private final Tape tape;
    private final Misser misser;
    private final Planner planner;
    private int refusal;
    private int rightSet;
    private boolean hasRight;

    public ShipSkins() {
        book = new Book();
        images = new Book[IMAGES];
        for (int k = 0; k < IMAGES; k++) {
            images[k] = new Book();
        }
        kept = new boolean[IMAGES];
        net = new Net(book);
        graph = new Graph(net);
        chooser = new Chooser(graph);
        prover = new Prover(graph);
        tape = new Tape(graph);
        misser = new Misser(net);
        planner = new Planner(net);
    }

    public int table(int which, int at, int low, int high) {
        if (!within(which, 0, 1) || !within(at, 0, which == 0 ? SEAS - 1 : PACES - 1)) {
            return refuse(BAD_NUMBER);
        }
        if (!within(low, -100, 100) || !within(high, -100, 100) || low > high) {
            return refuse(BAD_NUMBER);
        }
        book.setLaw(which == 0 ? at : SEAS + at, low, high);
        return accept(0);
    }

    public int ship(int base) {
        if (!within(base, 0, TOP)) {
            return refuse(BAD_NUMBER);
        }
        if (book.ships >= SHIPS) {
            return refuse(NO_ROOM);
        }
        book.bases[book.ships] = base;
        book.ships++;
        return accept(book.ships - 1);
    }

    public int leg(int ship, int day, int sea, int speed, int wind, int load) {
        if (!isDay(day) || !within(sea, 0, SEAS - 1) || !within(speed, 0, 30)) {
            return refuse(BAD_NUMBER);
        }
        if (!within(wind, 0, 20) || !within(load, 0, 100)) {
            return refuse(BAD_NUMBER);
        }
        if (!isShip(ship)) {
            return refuse(NO_SUCH);
        }
        if (book.legs.size >= LEGS) {
            return refuse(NO_ROOM);
        }
        book.legs.append(ship, day, sea, speed, wind, load);
        return accept(book.legs.size);
    }

    public int cleaned(int ship, int day, int left) {
        if (!isDay(day) || !within(left, 0, TOP)) {
            return refuse(BAD_NUMBER);
        }
        if (!isShip(ship)) {
            return refuse(NO_SUCH);
        }
        if (book.isCleaned(ship, day)) {
            return refuse(TWICE);
        }
        if (book.cleanings >= CLEANINGS) {
            return refuse(NO_ROOM);
        }
        book.addCleaning(ship, day, left);
        return accept(book.cleanings);
    }

    public int terms(int price, int fee) {
        if (!within(price, 0, 1000) || !within(fee, 0, MOST_MONEY)) {
            return refuse(BAD_NUMBER);
        }
        book.price = price;
        book.fee = fee;
        return accept(0);
    }

    public int log(int ship, int day, int fuel, int off, int worth, int known) {
        if (!isDay(day) || !within(fuel, 0, MOST_FUEL) || !within(off, 0, 1000)) {
            return refuse(BAD_NUMBER);
        }
        if (!within(worth, 1, 100) || !isDay(known)) {
            return refuse(BAD_NUMBER);
        }
        if (!isShip(ship)) {
            return refuse(NO_SUCH);
        }
        net.load(ship);
        if (net.speed[day] == 0) {
            return refuse(CANNOT_BE);
        }
        return addLog(ship, day, fuel, off, worth, known, false);
    }

    public int look(int ship, int day, int low, int high, int worth, int known) {
        if (!isDay(day) || !within(low, 0, TOP) || !within(high, low, TOP)) {
            return refuse(BAD_NUMBER);
        }
        if (!within(worth, 1, 100) || !isDay(known)) {
            return refuse(BAD_NUMBER);
        }
        if (!isShip(ship)) {
            return refuse(NO_SUCH);
        }
        return addLog(ship, day, low, high, worth, known, true);
    }

    public int of(int log, int what) {
        if (!isLog(log)) {
            return NONE;
        }
        Logs logs = book.logs;
        net.load(logs.ship[log]);
        switch (what) {
            case 0: return logs.ship[log];
            case 1: return logs.day[log];
            case 2: return net.readLow[log];
            case 3: return net.readHigh[log];
            case 4: return logs.worth[log];
            case 5: return logs.known[log];
            case 6: return logs.out[log] ? 1 : 0;
            default: return NONE;
        }
    }

    public int leave(int log, int out) {
        if (!within(out, 0, 1)) {
            return refuse(BAD_NUMBER);
        }
        if (!isLog(log)) {
            return refuse(NO_SUCH);
        }
        book.logs.out[log] = out == 1;
        return accept(0);
    }

    public int law(int ship, int day, int what) {
        if (!isShip(ship) || !within(day, 0, DAYS - 2) || !within(what, 0, 1)) {
            return NOTHING;
        }
        net.load(ship);
        if (net.cut[day + 1]) {
            return NOTHING;
        }
        return what == 0 ? net.low[day] : net.high[day];
    }

    public int share(int ship, int day, int z, int what) {
        if (!isShip(ship) || !isDay(day) || !within(z, 0, TOP) || !within(what, 0, PORTIONS)) {
            return NONE;
        }
        net.load(ship);
        return what == PORTIONS ? net.fuel(day, z) : net.shareOf(what, day, z);
    }

    public int span(int ship, int day, int known, int what) {
        if (!isDay(day) || !within(what, 0, 1) || !bindAsKnown(ship, known)) {
            return NONE;
        }
        return net.endOf(day, what);
    }

    public int why(int ship, int day, int known, int what) {
        if (!isDay(day) || !within(what, 0, 1) || !bindAsKnown(ship, known)) {
            return NONE;
        }
        return net.makerOf(day, what, net.counting(known));
    }

    public long lost(int ship, int from, int to, int known, int what) {
        if (!isStretch(from, to) || !within(what, 0, 1) || !bindAsKnown(ship, known)) {
            return NONE;
        }
        long sum = 0;
        for (int day = from; day <= to; day++) {
            sum += net.skinFuel(day, net.endOf(day, what));
        }
        return sum;
    }

    public int widest(int ship, int from, int to, int known) {
        if (!isStretch(from, to) || !bindAsKnown(ship, known)) {
            return NONE;
        }
        int best = from;
        for (int day = from + 1; day <= to; day++) {
            if (net.widthOf(day) > net.widthOf(best)) {
                best = day;
            }
        }
        return best;
    }

    public int quarrels(int ship, int known, int i) {
        if (!isShip(ship) || !isDay(known) || i < NONE) {
            return NONE;
        }
        graph.load(ship, known);
        return i == NONE ? graph.pairs() : graph.pairAt(i);
    }

    public int quarrel(int a, int b) {
        if (!isReadable(b) || !isReadable(a)) {
            return NONE;
        }
        if (book.logs.ship[a] != book.logs.ship[b]) {
            return 0;
        }
        return net.bind(1 << a | 1 << b) ? 0 : 1;
    }

    public int right(int ship, int known) {
        if (!isShip(ship) || !isDay(known)) {
            return NONE;
        }
        graph.load(ship, known);
        chooser.choose();
        rightSet = chooser.bestSet;
        hasRight = true;
        return chooser.bestWorth();
    }

    public int isRight(int log) {
        if (!hasRight || !isLog(log)) {
            return NONE;
        }
        return rightSet >> log & 1;
    }

    public int prove(int ship, int known) {
        if (!isShip(ship) || !isDay(known)) {
            return NONE;
        }
        graph.load(ship, known);
        chooser.choose();
        return prover.writeAll(chooser.bestWorth());
    }

    public int proof(int i) {
        return within(i, 0, prover.length - 1) ? prover.bytes[i] : NONE;
    }

    public int feed(int a, int b, int c, int d, int e) {
        if (!tape.hasRoom(5)) {
            return NONE;
        }
        tape.append(a);
        tape.append(b);
        tape.append(c);
        tape.append(d);
        tape.append(e);
        return tape.length;
    }

    public int end(int n) {
        if (!within(n, 0, tape.length)) {
            return NONE;
        }
        tape.length = n;
        return n;
    }

    /** Promise 25 empties the tape without a condition: also if there was nothing to check it by. */
    public int check(int ship, int known, int w) {
        int answer = NONE;
        if (isShip(ship) && isDay(known)) {
            graph.load(ship, known);
            answer = tape.holdsProof(w) ? 1 : 0;
        }
        tape.length = 0;
        return answer;
    }

    public int fault() {
        return tape.faultPlace;
    }

    public int miss(int ship, int known) {
        if (!isShip(ship) || !isDay(known)) {
            return NONE;
        }
        net.load(ship);
        return misser.leastMiss(net.counting(known));
    }

    public int curve(int day) {
        return misser.hasCurve && isDay(day) ? misser.curve[day] : NONE;
    }

    public int hidden(int ship, int known, int price) {
        if (!isShip(ship) || !isDay(known) || !within(price, 0, MOST_MONEY)) {
            return NONE;
        }
        net.load(ship);
        return misser.leastWithHidden(net.counting(known), price);
    }

    public int hid(int i) {
        return within(i, 0, misser.hiddenSize - 1) ? misser.hiddenDays[i] : NONE;
    }

    public int call(int day) {
        if (!isDay(day)) {
            return refuse(BAD_NUMBER);
        }
        if (planner.bitOn[day] != 0) {
            return refuse(TWICE);
        }
        if (planner.size >= CALLS) {
            return refuse(NO_ROOM);
        }
        planner.append(day);
        return accept(planner.size);
    }

    public int clear() {
        int were = planner.size;
        planner.drop();
        return were;
    }

    public int plan(int ship, int from, int to, int known) {
        if (!isStretch(from, to) || !bindAsKnown(ship, known)) {
            return NONE;
        }
        return planner.cheapest(from, to);
    }

    public long judge(int ship, int bits, int from, int to, int known) {
        if (!within(bits, 0, (1 << planner.size) - 1) || !isStretch(from, to)) {
            return NONE;
        }
        return bindAsKnown(ship, known) ? planner.worstCost(bits, from, to) : NONE;
    }

    public int seal() {
        Logs logs = book.logs;
        book.sealedLogs = logs.size;
        book.sealedSum = logs.sum();
        book.sealedPlaced = logs.placedSum();
        return logs.size;
    }

    public int alter(int log, int mask) {
        if (!within(mask, 1, 255)) {
            return refuse(BAD_NUMBER);
        }
        if (!isLog(log)) {
            return refuse(NO_SUCH);
        }
        book.logs.number[log] ^= mask;
        return accept(book.logs.number[log]);
    }

    public int found() {
        Logs logs = book.logs;
        if (book.sealedLogs == NONE) {
            return CANNOT_BE;
        }
        if (logs.size > book.sealedLogs) {
            return NO_SUCH;
        }
        long off = logs.sum() - book.sealedSum;
        long placedOff = logs.placedSum() - book.sealedPlaced;
        if (off == 0) {
            return placedOff == 0 ? NONE : NO_SUCH;
        }
        for (int i = 0; i < logs.size; i++) {
            if (off * (i + 1) == placedOff) {
                return i;
            }
        }
        return NO_SUCH;
    }

    public int image(int k) {
        if (!within(k, 0, IMAGES - 1)) {
            return refuse(BAD_NUMBER);
        }
        images[k].copyFrom(book);
        kept[k] = true;
        return accept(0);
    }

    public int back(int k) {
        if (!within(k, 0, IMAGES - 1)) {
            return refuse(BAD_NUMBER);
        }
        if (!kept[k]) {
            return refuse(NO_SUCH);
        }
        book.copyFrom(images[k]);
        return accept(0);
    }

    public int count(int what) {
        switch (what) {
            case 0: return book.ships;
            case 1: return book.legs.size;
            case 2: return book.cleanings;
            case 3: return book.logs.size;
            case 4: return planner.size;
            case 5: return tape.length;
            case 6: return prover.length;
            default: return NONE;
        }
    }

    public int status() {
        return refusal;
    }

    private int refuse(int by) {
        refusal = by;
        return by;
    }

    private int accept(int answer) {
        refusal = 0;
        return answer;
    }

    private static boolean within(int number, int from, int to) {
        return number >= from && number <= to;
    }

    private static boolean isDay(int day) {
        return within(day, 0, DAYS - 1);
    }

    private static boolean isStretch(int from, int to) {
        return isDay(from) && isDay(to) && from <= to;
    }

    private boolean isShip(int ship) {
        return within(ship, 0, book.ships - 1);
    }

    private boolean isLog(int log) {
        return within(log, 0, book.logs.size - 1);
    }

    /** Leaves the net loaded with the log's ship, which quarrel() goes on with. */
    private boolean isReadable(int log) {
        if (!isLog(log)) {
            return false;
        }
        net.load(book.logs.ship[log]);
        return (net.readable >> log & 1) == 1;
    }

    private boolean bindAsKnown(int ship, int known) {
        if (!isShip(ship) || !isDay(known)) {
            return false;
        }
        net.load(ship);
        return net.bind(net.counting(known));
    }

    private int addLog(int ship, int day, int number, int reach, int worth, int known, boolean seen) {
        Logs logs = book.logs;
        if (logs.size >= LOGS) {
            return refuse(NO_ROOM);
        }
        int at = logs.size;
        logs.ship[at] = ship;
        logs.day[at] = day;
        logs.number[at] = number;
        logs.reach[at] = reach;
        logs.worth[at] = worth;
        logs.known[at] = known;
        logs.seen[at] = seen;
        logs.out[at] = false;
        logs.size++;
        return accept(at);
    }

    /** All that was told and that an image keeps. */
    private static final class Book {
        private int ships;
        private int cleanings;
        private int price = 1;
        private int fee = 100;
        private int sealedLogs = NONE;
        private long sealedSum;
        private long sealedPlaced;
        private final int[] bases = new int[SHIPS];
        /** Laws at rest by sea, and behind them those under way by pace. */
        private final int[] lows = new int[SEAS + PACES];
        private final int[] highs = new int[SEAS + PACES];
        private final int[] cleanShip = new int[CLEANINGS];
        private final int[] cleanDay = new int[CLEANINGS];
        private final int[] cleanLeft = new int[CLEANINGS];
        private final Legs legs = new Legs();
        private final Logs logs = new Logs();

        private Book() {
            for (int at = 0; at < SEAS + PACES; at++) {
                lows[at] = at < SEAS ? 0 : -10;
                highs[at] = at < SEAS ? 10 : 0;
            }
        }

        private void setLaw(int at, int low, int high) {
            lows[at] = low;
            highs[at] = high;
        }

        private boolean isCleaned(int ship, int day) {
            for (int i = 0; i < cleanings; i++) {
                if (cleanShip[i] == ship && cleanDay[i] == day) {
                    return true;
                }
            }
            return false;
        }

        private void addCleaning(int ship, int day, int left) {
            cleanShip[cleanings] = ship;
            cleanDay[cleanings] = day;
            cleanLeft[cleanings] = left;
            cleanings++;
        }

        private void copyFrom(Book other) {
            ships = other.ships;
            cleanings = other.cleanings;
            price = other.price;
            fee = other.fee;
            sealedLogs = other.sealedLogs;
            sealedSum = other.sealedSum;
            sealedPlaced = other.sealedPlaced;
            System.arraycopy(other.bases, 0, bases, 0, SHIPS);
            System.arraycopy(other.lows, 0, lows, 0, SEAS + PACES);
            System.arraycopy(other.highs, 0, highs, 0, SEAS + PACES);
            System.arraycopy(other.cleanShip, 0, cleanShip, 0, CLEANINGS);
            System.arraycopy(other.cleanDay, 0, cleanDay, 0, CLEANINGS);
            System.arraycopy(other.cleanLeft, 0, cleanLeft, 0, CLEANINGS);
            legs.copyFrom(other.legs);
            logs.copyFrom(other.logs);
        }
    }

    /** Legs of all ships in the order in which they were told. */
    private static final class Legs {
        private int size;
        private final int[] ship = new int[LEGS];
        private final int[] day = new int[LEGS];
        private final int[] sea = new int[LEGS];
        private final int[] speed = new int[LEGS];
        private final int[] wind = new int[LEGS];
        private final int[] load = new int[LEGS];

        private void append(int ofShip, int onDay, int atSea, int bySpeed, int inWind, int withLoad) {
            ship[size] = ofShip;
            day[size] = onDay;
            sea[size] = atSea;
            speed[size] = bySpeed;
            wind[size] = inWind;
            load[size] = withLoad;
            size++;
        }

        private void copyFrom(Legs other) {
            size = other.size;
            System.arraycopy(other.ship, 0, ship, 0, LEGS);
            System.arraycopy(other.day, 0, day, 0, LEGS);
            System.arraycopy(other.sea, 0, sea, 0, LEGS);
            System.arraycopy(other.speed, 0, speed, 0, LEGS);
            System.arraycopy(other.wind, 0, wind, 0, LEGS);
            System.arraycopy(other.load, 0, load, 0, LEGS);
        }
    }

    /** Logs of fuel and looks; number is what a seal is over, reach is OFF or the Z up to which. */
    private static final class Logs {
        private int size;
        private final int[] ship = new int[LOGS];
        private final int[] day = new int[LOGS];
        private final int[] number = new int[LOGS];
        private final int[] reach = new int[LOGS];
        private final int[] worth = new int[LOGS];
        private final int[] known = new int[LOGS];
        private final boolean[] seen = new boolean[LOGS];
        private final boolean[] out = new boolean[LOGS];

        private long sum() {
            long all = 0;
            for (int i = 0; i < size; i++) {
                all += number[i];
            }
            return all;
        }

        private long placedSum() {
            long all = 0;
            for (int i = 0; i < size; i++) {
                all += (long) number[i] * (i + 1);
            }
            return all;
        }

        private void copyFrom(Logs other) {
            size = other.size;
            System.arraycopy(other.ship, 0, ship, 0, LOGS);
            System.arraycopy(other.day, 0, day, 0, LOGS);
            System.arraycopy(other.number, 0, number, 0, LOGS);
            System.arraycopy(other.reach, 0, reach, 0, LOGS);
            System.arraycopy(other.worth, 0, worth, 0, LOGS);
            System.arraycopy(other.known, 0, known, 0, LOGS);
            for (int i = 0; i < LOGS; i++) {
                seen[i] = other.seen[i];
                out[i] = other.out[i];
            }
        }
    }

    /** The days of one ship as a chain of differences, and what its logs are read as. */
    private static final class Net {
        private final Book book;
        private int ship;
        private final int[] leg = new int[DAYS];
        private final int[] speed = new int[DAYS];
        private final int[] low = new int[DAYS];
        private final int[] high = new int[DAYS];
        private final int[] cap = new int[DAYS];
        /** Whether no law leads to the day from the one ahead of it. */
        private final boolean[] cut = new boolean[DAYS];
        private int readable;
        private final int[] readLow = new int[LOGS];
        private final int[] readHigh = new int[LOGS];
        private final int[] least = new int[DAYS];
        private final int[] most = new int[DAYS];

        private Net(Book told) {
            book = told;
        }

        private void load(int wanted) {
            ship = wanted;
            findLegs();
            findLaws();
            findCleanings();
            readLogs();
        }

        private void findLegs() {
            for (int d = 0; d < DAYS; d++) {
                leg[d] = NONE;
            }
            Legs legs = book.legs;
            for (int i = 0; i < legs.size; i++) {
                if (legs.ship[i] == ship) {
                    leg[legs.day[i]] = i;
                }
            }
            for (int d = 1; d < DAYS; d++) {
                if (leg[d] == NONE) {
                    leg[d] = leg[d - 1];
                }
            }
        }

        private void findLaws() {
            for (int d = 0; d < DAYS; d++) {
                int i = leg[d];
                speed[d] = i == NONE ? 0 : book.legs.speed[i];
                int sea = i == NONE ? 0 : book.legs.sea[i];
                int at = speed[d] == 0 ? sea : SEAS + speed[d] / PACE;
                low[d] = book.lows[at];
                high[d] = book.highs[at];
            }
        }

        private void findCleanings() {
            for (int d = 0; d < DAYS; d++) {
                cut[d] = false;
                cap[d] = TOP;
            }
            for (int i = 0; i < book.cleanings; i++) {
                if (book.cleanShip[i] == ship) {
                    cut[book.cleanDay[i]] = true;
                    cap[book.cleanDay[i]] = book.cleanLeft[i];
                }
            }
        }

        private void readLogs() {
            Logs logs = book.logs;
            readable = 0;
            for (int i = 0; i < logs.size; i++) {
                if (logs.ship[i] != ship) {
                    continue;
                }
                if (logs.seen[i]) {
                    keepReading(i, logs.number[i], logs.reach[i]);
                } else {
                    readFuel(i, logs.day[i], logs.number[i], logs.reach[i]);
                }
            }
        }

        private void readFuel(int log, int day, int told, int off) {
            int square = speed[day] * speed[day];
            if (square == 0) {
                keepReading(log, 1, 0);
                return;
            }
            int without = portion(0, day, 0) + portion(1, day, 0) + portion(2, day, 0);
            int from = -Math.floorDiv(without - 100 * (told - off), square);
            int to = Math.floorDiv(100 * (told + off) + 99 - without, square);
            keepReading(log, Math.max(from, 0), Math.min(to, TOP));
        }

        private void keepReading(int log, int from, int to) {
            boolean any = from <= to;
            readLow[log] = any ? from : NONE;
            readHigh[log] = any ? to : NONE;
            if (any) {
                readable |= 1 << log;
            }
        }

        /** Logs that count as known, as bits. */
        private int counting(int known) {
            Logs logs = book.logs;
            int set = 0;
            for (int i = 0; i < logs.size; i++) {
                if (logs.known[i] <= known && !logs.out[i]) {
                    set |= 1 << i;
                }
            }
            return set & readable;
        }

        private int portion(int which, int day, int z) {
            int v = speed[day];
            int i = leg[day];
            if (v == 0 || i == NONE) {
                return 0;
            }
            switch (which) {
                case 0: return v * v * book.bases[ship];
                case 1: return book.legs.wind[i] * book.legs.wind[i] * v;
                case 2: return book.legs.load[i] * v;
                default: return v * v * z;
            }
        }

        private int fuel(int day, int z) {
            int all = 0;
            for (int i = 0; i < PORTIONS; i++) {
                all += portion(i, day, z);
            }
            return all / 100;
        }

        private int skinFuel(int day, int z) {
            return portion(PORTIONS - 1, day, z) / 100;
        }

        private int shareOf(int which, int day, int z) {
            int own = portion(which, day, z);
            int spare = fuel(day, z);
            int ahead = 0;
            for (int i = 0; i < PORTIONS; i++) {
                int other = portion(i, day, z);
                spare -= other / 100;
                if (other % 100 > own % 100 || other % 100 == own % 100 && i < which) {
                    ahead++;
                }
            }
            return own / 100 + (ahead < spare ? 1 : 0);
        }

        /** Sets the ends of each day by curves that meet these logs; false if there is no such curve. */
        private boolean bind(int set) {
            for (int d = 0; d < DAYS; d++) {
                least[d] = 0;
                most[d] = cap[d];
            }
            Logs logs = book.logs;
            for (int i = 0; i < logs.size; i++) {
                if ((set >> i & 1) == 1) {
                    narrow(logs.day[i], readLow[i], readHigh[i]);
                }
            }
            for (int d = 1; d < DAYS; d++) {
                if (!cut[d]) {
                    narrow(d, least[d - 1] + low[d - 1], most[d - 1] + high[d - 1]);
                }
            }
            for (int d = DAYS - 2; d >= 0; d--) {
                if (!cut[d + 1]) {
                    narrow(d, least[d + 1] - high[d], most[d + 1] - low[d]);
                }
            }
            return isBound();
        }

        private void narrow(int day, int from, int to) {
            least[day] = Math.max(least[day], from);
            most[day] = Math.min(most[day], to);
        }

        private boolean isBound() {
            for (int d = 0; d < DAYS; d++) {
                if (least[d] > most[d]) {
                    return false;
                }
            }
            return true;
        }

        private int endOf(int day, int what) {
            return what == 0 ? least[day] : most[day];
        }

        private int widthOf(int day) {
            return most[day] - least[day];
        }

        /** The lowest of the bound logs that makes the day's end alone. */
        private int makerOf(int day, int what, int set) {
            int wanted = endOf(day, what);
            bind(0);
            if (endOf(day, what) == wanted) {
                return NONE;
            }
            for (int i = 0; i < LOGS; i++) {
                if ((set >> i & 1) == 1) {
                    bind(1 << i);
                    if (endOf(day, what) == wanted) {
                        return i;
                    }
                }
            }
            return NONE;
        }
    }

    /** Who quarrels with whom of the logs that count, as bits. */
    private static final class Graph {
        private final Net net;
        private final int[] worth;
        private final int[] foes = new int[LOGS];
        private int members;
        /** Members that don't quarrel with themselves. */
        private int sound;

        private Graph(Net days) {
            net = days;
            worth = days.book.logs.worth;
        }

        private void load(int ship, int known) {
            net.load(ship);
            members = net.counting(known);
            sound = 0;
            for (int i = 0; i < LOGS; i++) {
                foes[i] = 0;
                if ((members >> i & 1) == 1) {
                    findFoes(i);
                }
            }
        }

        private void findFoes(int log) {
            if (!net.bind(1 << log)) {
                foes[log] = members;
                return;
            }
            sound |= 1 << log;
            int[] day = net.book.logs.day;
            for (int i = 0; i < LOGS; i++) {
                if ((members >> i & 1) == 1) {
                    boolean apart = net.readLow[i] > net.most[day[i]] || net.readHigh[i] < net.least[day[i]];
                    foes[log] |= apart ? 1 << i : 0;
                }
            }
        }

        private int pairs() {
            int all = 0;
            for (int a = 0; a < LOGS; a++) {
                all += Integer.bitCount(foes[a] >> a);
            }
            return all;
        }

        private int pairAt(int wanted) {
            int ahead = 0;
            for (int a = 0; a < LOGS; a++) {
                for (int b = a; b < LOGS; b++) {
                    if ((foes[a] >> b & 1) == 1) {
                        if (ahead == wanted) {
                            return a * LOGS + b;
                        }
                        ahead++;
                    }
                }
            }
            return NONE;
        }

        /** The group that a log begins, of those that are free. */
        private int groupFrom(int first, int free) {
            int group = 1 << first;
            for (int i = first + 1; i < LOGS; i++) {
                if ((free >> i & 1) == 1 && (group & ~foes[i]) == 0) {
                    group |= 1 << i;
                }
            }
            return group;
        }

        /** The open log that quarrels with the most open ones; NONE if no two quarrel. */
        private int busiest(int open) {
            int best = NONE;
            int bestFoes = 0;
            for (int i = 0; i < LOGS; i++) {
                int mine = (open >> i & 1) == 1 ? Integer.bitCount(foes[i] & open) : 0;
                if (mine > bestFoes) {
                    best = i;
                    bestFoes = mine;
                }
            }
            return best;
        }

        private int greatestWorth(int group) {
            int best = 0;
            for (int i = 0; i < LOGS; i++) {
                if ((group >> i & 1) == 1) {
                    best = Math.max(best, worth[i]);
                }
            }
            return best;
        }

        private int allWorth(int set) {
            int all = 0;
            for (int i = 0; i < LOGS; i++) {
                if ((set >> i & 1) == 1) {
                    all += worth[i];
                }
            }
            return all;
        }
    }

    /** Finds the worthiest set without quarrel. */
    private static final class Chooser {
        private static final int WORTH_SHIFT = 30;
        private static final int SIZE_SHIFT = 24;
        private final Graph graph;
        private long best;
        private int bestSet;

        private Chooser(Graph of) {
            graph = of;
        }

        private void choose() {
            best = NONE;
            bestSet = 0;
            search(graph.sound, 0, 0, 0);
        }

        private int bestWorth() {
            return graph.allWorth(bestSet);
        }

        /** Sums of these tell any two sets apart as RIGHT does: by worth, by size, by the lowest log. */
        private long keyOf(int log) {
            return ((long) graph.worth[log] << WORTH_SHIFT) + (1L << SIZE_SHIFT) + (1L << (LOGS - 1 - log));
        }

        private void search(int open, int chosen, long key, int depth) {
            if (depth > LOGS || key + bound(open) <= best) {
                return;
            }
            int pick = graph.busiest(open);
            if (pick == NONE) {
                best = key + allKeys(open);
                bestSet = chosen | open;
                return;
            }
            int rest = open & ~(1 << pick);
            search(rest & ~graph.foes[pick], chosen | 1 << pick, key + keyOf(pick), depth + 1);
            search(rest, chosen, key, depth + 1);
        }

        private long bound(int open) {
            int free = open;
            long all = 0;
            for (int i = 0; i < LOGS; i++) {
                if ((free >> i & 1) == 1) {
                    int group = graph.groupFrom(i, free);
                    free &= ~group;
                    all += greatestKey(group);
                }
            }
            return all;
        }

        private long greatestKey(int group) {
            long top = 0;
            for (int i = 0; i < LOGS; i++) {
                if ((group >> i & 1) == 1) {
                    top = Math.max(top, keyOf(i));
                }
            }
            return top;
        }

        private long allKeys(int set) {
            long all = 0;
            for (int i = 0; i < LOGS; i++) {
                if ((set >> i & 1) == 1) {
                    all += keyOf(i);
                }
            }
            return all;
        }
    }

    /** Writes the proof that no set has more worth. */
    private static final class Prover {
        private static final int MOST_BYTES = 2000;
        private final Graph graph;
        private final int[] bytes = new int[MOST_BYTES];
        private int length;
        private int limit;
        private int written;
        private boolean keeping;

        private Prover(Graph of) {
            graph = of;
        }

        /** Writes twice, at first without keeping a byte: a proof that is too long must not touch the latest. */
        private int writeAll(int worth) {
            limit = worth;
            written = 0;
            keeping = false;
            write(graph.sound, 0, 0);
            if (written > MOST_BYTES) {
                return NONE;
            }
            written = 0;
            keeping = true;
            write(graph.sound, 0, 0);
            length = written;
            return length;
        }

        private void write(int open, int keptWorth, int depth) {
            if (depth > LOGS || written > MOST_BYTES) {
                return;
            }
            int pick = graph.busiest(open);
            if (pick == NONE || keptWorth + bound(open) <= limit) {
                writeGroups(open);
                return;
            }
            int rest = open & ~(1 << pick);
            put('(');
            putNumber(pick);
            write(rest & ~graph.foes[pick], keptWorth + graph.worth[pick], depth + 1);
            write(rest, keptWorth, depth + 1);
            put(')');
        }

        private int bound(int open) {
            int free = open;
            int all = 0;
            for (int i = 0; i < LOGS; i++) {
                if ((free >> i & 1) == 1) {
                    int group = graph.groupFrom(i, free);
                    free &= ~group;
                    all += graph.greatestWorth(group);
                }
            }
            return all;
        }

        private void writeGroups(int open) {
            int free = open;
            put('[');
            for (int i = 0; i < LOGS; i++) {
                if ((free >> i & 1) == 1) {
                    int group = graph.groupFrom(i, free);
                    free &= ~group;
                    if (Integer.bitCount(group) > 1) {
                        writeGroup(i, group);
                    }
                }
            }
            put(']');
        }

        private void writeGroup(int first, int group) {
            for (int i = first; i < LOGS; i++) {
                if ((group >> i & 1) == 1) {
                    if (i > first) {
                        put(',');
                    }
                    putNumber(i);
                }
            }
            put(';');
        }

        private void putNumber(int number) {
            if (number > 9) {
                put('0' + number / 10);
            }
            put('0' + number % 10);
        }

        private void put(int sign) {
            if (keeping && written < MOST_BYTES) {
                bytes[written] = sign;
            }
            written++;
        }
    }

    /** The tape, and how a proof on it is checked. */
    private static final class Tape {
        private static final int MOST_BYTES = 400;
        private static final int MOST_BRACKETS = 24;
        private static final int BLANK = 32;
        private static final int END = -1;
        private static final int NUMBER = 256;
        private final Graph graph;
        private final int[] bytes = new int[MOST_BYTES];
        private int length;
        private int faultPlace = NONE;
        private int limit;
        private int at;
        private int token;
        private int tokenPlace;
        private int tokenNumber;

        private Tape(Graph of) {
            graph = of;
        }

        private boolean hasRoom(int fours) {
            return length + 4 * fours <= MOST_BYTES;
        }

        private void append(int four) {
            for (int shift = 24; shift >= 0 && length < MOST_BYTES; shift -= 8) {
                bytes[length] = four >> shift & 255;
                length++;
            }
        }

        private boolean holdsProof(int worth) {
            limit = worth;
            at = 0;
            faultPlace = NONE;
            step();
            return readProof(graph.sound, 0, 1) && expect(END);
        }

        private void step() {
            while (at < length && bytes[at] == BLANK) {
                at++;
            }
            tokenPlace = at;
            if (at >= length) {
                token = END;
            } else if (isDigit(bytes[at])) {
                token = NUMBER;
                readNumber();
            } else {
                token = bytes[at];
                at++;
            }
        }

        private void readNumber() {
            tokenNumber = 0;
            while (at < length && isDigit(bytes[at])) {
                tokenNumber = Math.min(tokenNumber * 10 + bytes[at] - '0', LOGS);
                at++;
            }
        }

        private static boolean isDigit(int sign) {
            return sign >= '0' && sign <= '9';
        }

        private boolean fail() {
            faultPlace = tokenPlace;
            return false;
        }

        private boolean expect(int wanted) {
            if (token != wanted) {
                return fail();
            }
            step();
            return true;
        }

        private boolean isLogOf(int set) {
            return token == NUMBER && tokenNumber < LOGS && (set >> tokenNumber & 1) == 1;
        }

        private boolean readProof(int open, int keptWorth, int depth) {
            if (depth > MOST_BRACKETS) {
                return fail();
            }
            if (token == '[') {
                return readGroups(open, keptWorth);
            }
            if (!expect('(')) {
                return false;
            }
            if (!isLogOf(open)) {
                return fail();
            }
            int pick = tokenNumber;
            int rest = open & ~(1 << pick);
            step();
            return readProof(rest & ~graph.foes[pick], keptWorth + graph.worth[pick], depth + 1)
                && readProof(rest, keptWorth, depth + 1)
                && expect(')');
        }

        private boolean readGroups(int open, int keptWorth) {
            int free = open;
            int all = keptWorth;
            step();
            for (int groups = 0; groups < LOGS && token != ']'; groups++) {
                int group = readGroup(free);
                if (group == 0) {
                    return false;
                }
                free &= ~group;
                all += graph.greatestWorth(group);
            }
            if (all + graph.allWorth(free) > limit) {
                return fail();
            }
            return expect(']');
        }

        /** The next group of free logs; 0, which no group is, at a fault. */
        private int readGroup(int free) {
            int group = 0;
            for (int logs = 0; logs < LOGS; logs++) {
                if (!isLogOf(free & ~group) || (group & ~graph.foes[tokenNumber]) != 0) {
                    fail();
                    return 0;
                }
                group |= 1 << tokenNumber;
                step();
                if (token != ',') {
                    return expect(';') ? group : 0;
                }
                step();
            }
            fail();
            return 0;
        }
    }

    /** A convex cost of Z on a day, in straight pieces: where it begins, how it leans there, and where it turns. */
    private static final class Slope {
        /** Each log brings two turns and splits one at most. */
        private static final int TURNS = 4 * LOGS;
        private int least;
        private int most;
        private int value;
        private int lean;
        private int size;
        private final int[] places = new int[TURNS];
        private final int[] turns = new int[TURNS];

        private void begin(int from, int to, int cost) {
            least = from;
            most = to;
            value = cost;
            lean = 0;
            size = 0;
        }

        /** Adds worth times the distance from a span. */
        private void addMiss(int from, int to, int worth) {
            value += worth * Math.max(0, Math.max(from - least, least - to));
            if (least < from) {
                lean -= worth;
                insertByPlace(from, worth);
            }
            if (least < to) {
                insertByPlace(to, worth);
            } else {
                lean += worth;
            }
        }

        private void insertByPlace(int place, int turn) {
            if (place >= most) {
                return;
            }
            int i = size;
            while (i > 0 && places[i - 1] > place) {
                i--;
            }
            insertAt(i, place, turn);
        }

        private void insertAt(int index, int place, int turn) {
            if (size >= TURNS || index < 0 || index > size) {
                return;
            }
            for (int i = size; i > index; i--) {
                places[i] = places[i - 1];
                turns[i] = turns[i - 1];
            }
            places[index] = place;
            turns[index] = turn;
            size++;
        }

        /** Makes it the least cost of a day that is from low to high more than this one. */
        private void spread(int low, int high) {
            int falling = splitAtBottom();
            for (int i = 0; i < size; i++) {
                places[i] += i < falling ? low : high;
            }
            least += low;
            most += high;
        }

        /** Parts the turns so that it leans by 0 behind the first ones; how many these are. */
        private int splitAtBottom() {
            if (lean > 0) {
                insertAt(0, least, lean);
                lean = 0;
            }
            int now = lean;
            for (int i = 0; i < size; i++) {
                if (now == 0) {
                    return i;
                }
                now += turns[i];
                if (now > 0) {
                    turns[i] -= now;
                    insertAt(i + 1, places[i], now);
                    return i + 1;
                }
            }
            if (now < 0) {
                insertAt(size, most, -now);
            }
            return size;
        }

        /** Leaves Z from 0 to a cap alone; false if there is none. */
        private boolean cutTo(int cap) {
            int from = Math.max(least, 0);
            int to = Math.min(most, cap);
            if (from > to) {
                return false;
            }
            int passed = 0;
            while (passed < size && places[passed] <= from) {
                value += lean * (places[passed] - least);
                least = places[passed];
                lean += turns[passed];
                passed++;
            }
            value += lean * (from - least);
            least = from;
            most = to;
            dropFirst(passed);
            while (size > 0 && places[size - 1] >= to) {
                size--;
            }
            return true;
        }

        private void dropFirst(int passed) {
            for (int i = passed; i < size; i++) {
                places[i - passed] = places[i];
                turns[i - passed] = turns[i];
            }
            size -= passed;
        }

        /** The lowest Z with the least cost. */
        private int bottom() {
            if (lean >= 0) {
                return least;
            }
            int now = lean;
            for (int i = 0; i < size; i++) {
                now += turns[i];
                if (now >= 0) {
                    return places[i];
                }
            }
            return most;
        }

        private int bottomCost() {
            int cost = value;
            int from = least;
            int now = lean;
            for (int i = 0; i < size && now < 0; i++) {
                cost += now * (places[i] - from);
                from = places[i];
                now += turns[i];
            }
            return now < 0 ? cost + now * (most - from) : cost;
        }
    }

    /** Finds the curve that misses logs the least, and cleanings nobody told. */
    private static final class Misser {
        private static final int ENDLESS = 100000000;
        private final Net net;
        private final Slope slope = new Slope();
        private final int[] onDay = new int[DAYS];
        private final int[] bottom = new int[DAYS];
        /** The least miss of the days ahead of a day, and that from a day on with Z 0 there. */
        private final int[] ahead = new int[DAYS];
        private final int[] fromZero = new int[DAYS];
        private final int[] curve = new int[DAYS];
        private boolean hasCurve;
        private int best;
        private int bestSize;
        private int bestFirst;
        private int bestSecond;
        private int hiddenSize;
        private final int[] hiddenDays = new int[2];

        private Misser(Net days) {
            net = days;
        }

        private int leastMiss(int set) {
            sortByDay(set);
            int least = sweepBack();
            if (least >= ENDLESS) {
                return NONE;
            }
            followBottoms();
            hasCurve = true;
            return least;
        }

        private void sortByDay(int set) {
            for (int d = 0; d < DAYS; d++) {
                onDay[d] = 0;
            }
            Logs logs = net.book.logs;
            for (int i = 0; i < logs.size; i++) {
                if ((set >> i & 1) == 1) {
                    onDay[logs.day[i]] |= 1 << i;
                }
            }
        }

        /** Goes from the last day to the first with the least miss of all days behind; the least of all days. */
        private int sweepBack() {
            for (int d = 0; d < DAYS; d++) {
                fromZero[d] = ENDLESS;
            }
            slope.begin(0, net.cap[DAYS - 1], 0);
            for (int d = DAYS - 1; d >= 0; d--) {
                if (d < DAYS - 1 && !stepBack(d)) {
                    return ENDLESS;
                }
                addLogs(d);
                bottom[d] = slope.bottom();
                fromZero[d] = slope.least == 0 ? slope.value : ENDLESS;
            }
            return slope.bottomCost();
        }

        private boolean stepBack(int day) {
            if (net.cut[day + 1]) {
                slope.begin(0, net.cap[day], slope.bottomCost());
                return true;
            }
            slope.spread(-net.high[day], -net.low[day]);
            return slope.cutTo(net.cap[day]);
        }

        private boolean stepAhead(int day) {
            if (net.cut[day]) {
                slope.begin(0, net.cap[day], slope.bottomCost());
                return true;
            }
            slope.spread(net.low[day - 1], net.high[day - 1]);
            return slope.cutTo(net.cap[day]);
        }

        private void addLogs(int day) {
            if (onDay[day] == 0) {
                return;
            }
            for (int i = 0; i < LOGS; i++) {
                if ((onDay[day] >> i & 1) == 1) {
                    slope.addMiss(net.readLow[i], net.readHigh[i], net.book.logs.worth[i]);
                }
            }
        }

        /**
         * As costs are convex, the Z nearest to a day's lowest bottom is the lowest of the best ones that the law
         * leaves; days behind can go on from it, for they can from the bottom and from some Z that the law leaves.
         */
        private void followBottoms() {
            curve[0] = bottom[0];
            for (int d = 1; d < DAYS; d++) {
                int z = bottom[d];
                if (!net.cut[d]) {
                    z = Math.max(z, curve[d - 1] + net.low[d - 1]);
                    z = Math.min(z, curve[d - 1] + net.high[d - 1]);
                }
                curve[d] = z;
            }
        }

        private int leastWithHidden(int set, int price) {
            sortByDay(set);
            best = sweepBack();
            bestSize = 0;
            bestFirst = NONE;
            bestSecond = NONE;
            sweepAhead();
            tryOne(price);
            for (int d = 1; d < DAYS - 1; d++) {
                tryTwo(d, price);
            }
            if (best >= ENDLESS) {
                return NONE;
            }
            hiddenSize = bestSize;
            hiddenDays[0] = bestFirst;
            hiddenDays[1] = bestSecond;
            return best;
        }

        private void sweepAhead() {
            for (int d = 0; d < DAYS; d++) {
                ahead[d] = ENDLESS;
            }
            slope.begin(0, net.cap[0], 0);
            addLogs(0);
            for (int d = 1; d < DAYS; d++) {
                ahead[d] = slope.bottomCost();
                if (!stepAhead(d)) {
                    return;
                }
                addLogs(d);
            }
        }

        private void tryOne(int price) {
            for (int d = 1; d < DAYS; d++) {
                if (!net.cut[d]) {
                    offer(ahead[d] + fromZero[d] + price, 1, d, NONE);
                }
            }
        }

        /** Tries all pairs with this first day; costs only grow with the second, so it ends when they can't be better. */
        private void tryTwo(int first, int price) {
            int sure = ahead[first] + 2 * price;
            if (net.cut[first] || sure >= best) {
                return;
            }
            slope.begin(0, 0, 0);
            addLogs(first);
            for (int d = first + 1; d < DAYS; d++) {
                int upTo = sure + slope.bottomCost();
                if (upTo >= best) {
                    return;
                }
                if (!net.cut[d]) {
                    offer(upTo + fromZero[d], 2, first, d);
                }
                if (!stepAhead(d)) {
                    return;
                }
                addLogs(d);
            }
        }

        private void offer(int cost, int size, int first, int second) {
            if (cost < best) {
                best = cost;
                bestSize = size;
                bestFirst = first;
                bestSecond = second;
            }
        }
    }

    /** Calls for cleaning, and what they cost at worst. */
    private static final class Planner {
        private final Net net;
        private int size;
        /** The bit of the call on a day; 0 without one. */
        private final int[] bitOn = new int[DAYS];

        private Planner(Net days) {
            net = days;
        }

        private void append(int day) {
            bitOn[day] = 1 << size;
            size++;
        }

        private void drop() {
            size = 0;
            for (int d = 0; d < DAYS; d++) {
                bitOn[d] = 0;
            }
        }

        private int cheapest(int from, int to) {
            int best = 0;
            long bestCost = worstCost(0, from, to);
            for (int bits = 1; bits < 1 << size; bits++) {
                long cost = worstCost(bits, from, to);
                boolean fewer = Integer.bitCount(bits) < Integer.bitCount(best);
                if (cost < bestCost || cost == bestCost && fewer) {
                    best = bits;
                    bestCost = cost;
                }
            }
            return best;
        }

        private long worstCost(int bits, int from, int to) {
            Book book = net.book;
            long cost = 0;
            int z = net.most[from];
            for (int d = from; d <= to; d++) {
                if (d > from) {
                    z = net.cut[d] ? net.cap[d] : Math.min(Math.max(z + net.high[d - 1], 0), TOP);
                }
                if ((bitOn[d] & bits) != 0) {
                    z = 0;
                    cost += book.fee;
                }
                cost += (long) net.skinFuel(d, z) * book.price;
            }
            return cost;
        }
    }
}
