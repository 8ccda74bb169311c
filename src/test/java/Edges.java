import java.lang.reflect.Method;
import java.lang.reflect.Modifier;
import java.util.ArrayList;
import java.util.Comparator;
import java.util.List;
import java.util.Set;
import java.util.TreeSet;
import java.util.function.Supplier;

/** What the tests of edges have in common: objects to test on, and what a call must take, refuse and leave alone. */
abstract class Edges {
    /** A call on an object. */
    interface Call {
        long on(ShipSkins x);
    }

    /** A call on an object with one of its numbers left open. */
    interface Open {
        long on(ShipSkins x, int number);
    }

    private static int wrong = 0;
    private static int tests = 0;
    private static String test = "";
    private static final Set<Integer> promises = new TreeSet<>();

    /** Runs each test of some classes: those methods whose name begins with p and the promise's number. */
    static void run(Class<?>... classes) throws ReflectiveOperationException {
        for (Class<?> of : classes) {
            List<Method> methods = new ArrayList<>(List.of(of.getDeclaredMethods()));
            methods.sort(Comparator.comparing(Method::getName));
            for (Method method : methods) {
                if (method.getName().matches("p\\d\\d_\\w+") && Modifier.isStatic(method.getModifiers())) {
                    test = method.getName();
                    method.invoke(null);
                    tests++;
                    promises.add(Integer.parseInt(test.substring(1, 3)));
                }
            }
        }
        test = "all tests";
        for (int p = 0; p <= 41; p++) due("tests of promise " + p, promises.contains(p) ? 1 : 0, 1);
        System.out.println(tests + " tests of edges, " + wrong + " answers not as due");
        if (wrong != 0) System.exit(1);
    }

    static void due(String what, long got, long want) {
        if (got != want) {
            wrong++;
            System.out.println(test + ": " + what + " answered " + got + ", due is " + want);
        }
    }

    static void same(String what, String got, String want) {
        if (!got.equals(want)) {
            wrong++;
            System.out.println(test + ": " + what + " is " + got + ", due is " + want);
        }
    }

    /** The numbers that are just not from one to another, and those farthest from them. */
    private static int[] outside(int from, int to) {
        return new int[] {from - 1, to + 1, Integer.MIN_VALUE, Integer.MAX_VALUE};
    }

    /** A telling call takes a number from one to another, and is refused by -1 for any other. */
    static void tells(String what, Open call, int from, int to, long taken) {
        tells(what, Edges::some, call, from, to, taken, -1);
    }

    static void tells(String what, Supplier<ShipSkins> made, Open call, int from, int to, long taken, int by) {
        for (int number : new int[] {from, to}) takes(what + " " + number, made, x -> call.on(x, number), taken);
        for (int number : outside(from, to)) refuses(what + " " + number, made, x -> call.on(x, number), by);
    }

    /** A telling call is taken, whatever the one ahead was refused by. */
    static void takes(String what, Supplier<ShipSkins> made, Call call, long answer) {
        ShipSkins x = made.get();
        x.ship(-1);
        due(what, call.on(x), answer);
        due("status behind " + what, x.status(), 0);
    }

    /** A telling call is refused: that is its answer, status() tells so, and all else is as it was. */
    static void refuses(String what, Supplier<ShipSkins> made, Call call, int by) {
        ShipSkins x = made.get();
        x.terms(3, 70);
        due(what, call.on(x), by);
        due("status behind " + what, x.status(), by);
        ShipSkins y = made.get();
        y.terms(3, 70);
        same("all behind " + what, seen(x), seen(y));
    }

    /** An asking call answers for numbers from one to another, and NONE for any other. */
    static void asks(String what, Supplier<ShipSkins> made, Open call, int from, int to, long[] ends) {
        due(what + " " + from, call.on(made.get(), from), ends[0]);
        due(what + " " + to, call.on(made.get(), to), ends[1]);
        for (int number : outside(from, to)) {
            due(what + " " + number, call.on(made.get(), number), -1);
            barren(what + " " + number, x -> call.on(x, number), -1);
        }
    }

    static long[] ends(long atFrom, long atTo) {
        return new long[] {atFrom, atTo};
    }

    /** An asking call that has nothing to tell: status() and all else are as they were. */
    static void barren(String what, Call call, long answer) {
        barren(what, Edges::some, call, answer);
    }

    static void barren(String what, Supplier<ShipSkins> made, Call call, long answer) {
        for (int status : new int[] {0, -1}) {
            ShipSkins x = made.get();
            ShipSkins y = made.get();
            tellStatus(x, status);
            tellStatus(y, status);
            due(what, call.on(x), answer);
            due("status behind " + what, x.status(), status);
            same("all behind " + what, seen(x), seen(y));
        }
    }

    private static void tellStatus(ShipSkins x, int status) {
        due("terms", x.terms(status == 0 ? 3 : -1, 70), status);
    }

    /** One ship with base 0, at rest in sea 0 always: it rises by 0 to 10 a day. */
    static ShipSkins resting() {
        ShipSkins x = new ShipSkins();
        x.ship(0);
        return x;
    }

    /** One ship with base 0, under way at speed 10 always, so that fuel is Z; it rises by 5 to 8 a day. */
    static ShipSkins sailing() {
        ShipSkins x = new ShipSkins();
        x.ship(0);
        x.leg(0, 0, 0, 10, 0, 0);
        x.table(1, 1, 5, 8);
        return x;
    }

    /** One ship with a base, under way on day 0 with a speed, a wind and a load. */
    static ShipSkins underWay(int base, int speed, int wind, int load) {
        ShipSkins x = new ShipSkins();
        x.ship(base);
        x.leg(0, 0, 0, speed, wind, load);
        return x;
    }

    /** Something stands in each row, and there is room in each: so a refused call that touches one is seen. */
    static ShipSkins some() {
        ShipSkins x = new ShipSkins();
        x.ship(10);
        x.ship(20);
        x.table(0, 1, 2, 12);
        x.table(1, 1, -4, 6);
        x.leg(0, 10, 0, 10, 3, 4);
        x.leg(0, 40, 1, 0, 0, 0);
        x.leg(1, 5, 2, 20, 1, 1);
        x.cleaned(0, 60, 50);
        x.cleaned(1, 0, 7);
        x.terms(3, 70);
        x.look(0, 0, 10, 30, 5, 0);
        x.log(0, 12, 120, 20, 4, 0);
        x.look(0, 0, 100, 120, 3, 50);
        x.look(1, 30, 0, 500, 2, 0);
        x.look(0, 70, 100, 300, 6, 0);
        x.look(0, 20, 0, 3, 9, 60);
        x.leave(4, 1);
        x.seal();
        x.image(0);
        x.alter(3, 5);
        x.call(3);
        x.call(15);
        askForLatest(x);
        put(x, "[0,2;]");
        return x;
    }

    /** As some(), but ship 0 is under way on all days. */
    static ShipSkins allUnderWay() {
        ShipSkins x = some();
        x.leg(0, 0, 0, 10, 0, 0);
        x.leg(0, 40, 0, 10, 0, 0);
        return x;
    }

    /** As some(), but there is no room in any row, and both images are kept. */
    static ShipSkins full() {
        ShipSkins x = some();
        x.ship(30);
        for (int n = 3; n < 60; n++) x.leg(2, 2 * n, n % 6, n % 31, n % 21, n);
        for (int n = 2; n < 40; n++) x.cleaned(2, 3 * n, n);
        for (int n = 6; n < 24; n++) x.look(2, 3 * n + 1, n, 40 * n, n, n);
        for (int n = 2; n < 7; n++) x.call(10 * n);
        x.image(1);
        x.seal();
        x.alter(23, 1);
        askForLatest(x);
        put(x, "[0,2;]" + " ".repeat(394));
        return x;
    }

    /** Right, proof, curve, hidden days and fault are all told apart from those of a new object by seen(). */
    private static void askForLatest(ShipSkins x) {
        x.right(0, 119);
        x.prove(0, 119);
        x.miss(0, 119);
        x.hidden(0, 119, 1);
        put(x, "(0[");
        x.check(0, 119, 9);
    }

    /** The tape is this text alone. */
    static void put(ShipSkins x, String text) {
        x.end(0);
        for (int at = 0; at < text.length(); at += 20) {
            int[] five = new int[5];
            for (int i = 0; i < 20; i++) {
                five[i / 4] = five[i / 4] << 8 | (at + i < text.length() ? text.charAt(at + i) : 'x');
            }
            x.feed(five[0], five[1], five[2], five[3], five[4]);
        }
        due("bytes of the tape", x.end(text.length()), text.length());
    }

    static String proofOf(ShipSkins x) {
        StringBuilder text = new StringBuilder();
        for (int i = 0; i < x.count(6); i++) text.append((char) x.proof(i));
        return text.toString();
    }

    /** A text is checked as a proof of w by what ship 0's logs are on day 119: the fault due, or NONE if it is one. */
    static void checks(ShipSkins x, String text, int w, int fault) {
        put(x, text);
        due("check of " + text + " for " + w, x.check(0, 119, w), fault == -1 ? 1 : 0);
        due("fault of " + text + " for " + w, x.fault(), fault);
    }

    /**
     * All that can be seen of an object, but for status(); the object is not to be used behind it. It takes 258 calls,
     * and full() 185: together fewer than the 512 for which an object is used.
     */
    static String seen(ShipSkins x) {
        StringBuilder all = new StringBuilder();
        seenLatest(x, all);
        seenBook(x, all, true);
        all.append(" tape ").append(x.check(0, 119, 18)).append(' ').append(x.fault());
        for (int k = 0; k < 2; k++) {
            all.append(" back ").append(x.back(k));
            seenBook(x, all, false);
        }
        return all.toString();
    }

    private static void seenLatest(ShipSkins x, StringBuilder all) {
        all.append("fault ").append(x.fault()).append(" right");
        for (int log = 0; log <= 24; log++) all.append(' ').append(x.isRight(log));
        all.append(" proof");
        for (int i = 0; i < 24; i++) all.append(' ').append(x.proof(i));
        all.append(" curve");
        for (int day = 0; day < 120; day += 7) all.append(' ').append(x.curve(day));
        all.append(" hidden ").append(x.hid(0)).append(' ').append(x.hid(1));
        all.append(" counts");
        for (int what = 4; what <= 6; what++) all.append(' ').append(x.count(what));
    }

    private static void seenBook(ShipSkins x, StringBuilder all, boolean wholly) {
        all.append(" found ").append(x.found()).append(" counts");
        for (int what = 0; what < 4; what++) all.append(' ').append(x.count(what));
        for (int log = 0; log < (wholly ? 24 : 6); log++) {
            all.append(" log ").append(x.of(log, 2)).append(' ').append(x.of(log, 6));
        }
        int[] days = wholly ? new int[] {0, 12, 41, 118} : new int[] {12, 118};
        for (int ship = 0; ship < (wholly ? 3 : 2); ship++) {
            all.append(" ship");
            for (int day : days) {
                all.append(' ').append(x.law(ship, day, 0)).append(' ').append(x.law(ship, day, 1));
                all.append(' ').append(x.share(ship, day, 500, 4)).append(' ').append(x.span(ship, day, 49, 1));
            }
            all.append(" worst ").append(x.judge(ship, 1, 0, 30, 49)).append(' ').append(x.judge(ship, 2, 0, 30, 49));
        }
    }
}
