import java.util.Random;

/** Random runs of calls, each answer held against the Oracle; the seeds are fixed, so each run is the same. */
public final class OracleTest {
    private static final String[] NAMES = {
        "table", "ship", "leg", "cleaned", "terms", "log", "look", "of", "leave", "law", "share", "span", "why",
        "lost", "widest", "quarrels", "quarrel", "right", "isRight", "prove", "proof", "feed", "end", "check",
        "fault", "miss", "curve", "hidden", "hid", "call", "clear", "plan", "judge", "seal", "alter", "found",
        "image", "back", "count", "status"};
    private static final int[] WIDTHS = {
        4, 1, 6, 3, 2, 6, 6, 2, 2, 3, 4, 4, 4,
        5, 4, 3, 2, 2, 1, 2, 1, 5, 1, 3,
        0, 2, 1, 3, 1, 1, 0, 4, 5, 0, 2, 0,
        1, 1, 1, 0};
    private static final int[] ODD = {
        Integer.MIN_VALUE, -1001, -101, -100, -2, -1, 0, 1, 2, 3, 5, 6, 7, 20, 21, 23, 24, 30, 31, 59, 100, 101, 118,
        119, 120, 255, 256, 1000, 1001, 100000, 100001, Integer.MAX_VALUE};

    private final Random random;
    private final Pair pair = new Pair();

    private OracleTest(long seed) {
        random = new Random(seed);
    }

    private int any(int from, int to) {
        return from + random.nextInt(to - from + 1);
    }

    private boolean once(int in) {
        return random.nextInt(in) == 0;
    }

    private long ask(String name, int... args) {
        return pair.ask(name, args);
    }

    public static void main(String[] args) {
        int scale = args.length > 0 ? Integer.parseInt(args[0]) : 1;
        long seed = args.length > 1 ? Long.parseLong(args[1]) : 1;
        for (int i = 0; i < 150 * scale; i++) new OracleTest(seed * 1000003 + i).wild();
        for (int i = 0; i < 30 * scale; i++) new OracleTest(seed * 2000003 + i).voyage();
        for (int i = 0; i < 40 * scale; i++) new OracleTest(seed * 3000017 + i).dispute();
        for (int i = 0; i < 40 * scale; i++) new OracleTest(seed * 4000037 + i).misses();
        for (int i = 0; i < 60 * scale; i++) new OracleTest(seed * 5000011 + i).edges();
        for (int i = 0; i < 20 * scale; i++) new OracleTest(seed * 6000011 + i).crowd();
        new OracleTest(seed).tangle(PromisesTest.OF_2000);
        new OracleTest(seed).tangle(PromisesTest.OF_2001);
        System.out.println(Pair.compared + " answers compared, " + Pair.wrong + " not as due");
        if (Pair.wrong != 0) System.exit(1);
    }

    /** Any calls with any numbers. */
    private void wild() {
        for (int s = 0; s < any(0, 3); s++) ask("ship", any(0, 1000));
        for (int n = 0; n < 100; n++) {
            int at = random.nextInt(NAMES.length);
            if ((NAMES[at].equals("hidden") || NAMES[at].equals("plan")) && !once(4)) continue;
            int[] args = new int[WIDTHS[at]];
            for (int i = 0; i < args.length; i++) {
                args[i] = once(6) ? ODD[random.nextInt(ODD.length)] : once(2) ? any(0, 3) : any(0, 119);
            }
            ask(NAMES[at], args);
            if (once(4)) ask("status");
        }
    }

    private void tables(boolean strict) {
        for (int i = 0; i < any(0, 6); i++) {
            int which = any(0, 1);
            int low = strict ? any(-20, 12) : any(-100, 100);
            int high = once(3) ? low : Math.min(100, low + any(0, 40));
            ask("table", which, any(0, which == 0 ? 5 : 3), low, high);
        }
    }

    private void legs(int ship, int most) {
        for (int i = 0; i < any(0, most); i++) {
            ask("leg", ship, any(0, 119), any(0, 5), once(3) ? 0 : any(1, 30), any(0, 20), any(0, 100));
        }
    }

    private void cleanings(int ship, int most) {
        for (int i = 0; i < any(0, most); i++) ask("cleaned", ship, any(0, 119), once(3) ? 0 : any(0, 1000));
    }

    private void someLog(int ship) {
        int day = any(0, 119);
        int worth = once(2) ? any(1, 3) : any(1, 100);
        int known = once(3) ? 0 : any(0, 119);
        if (once(2) && pair.due.share(ship, day, 0, 4) > 0) {
            long fuel = pair.due.share(ship, day, any(0, 1000), 4);
            ask("log", ship, day, (int) fuel, once(3) ? 0 : any(0, 300), worth, known);
        } else {
            int low = any(0, 1000);
            ask("look", ship, day, low, Math.min(1000, low + any(0, 300)), worth, known);
        }
    }

    /** A life of one ship or two, with all that can be asked of it. */
    private void voyage() {
        int ships = any(1, 2);
        for (int s = 0; s < ships; s++) {
            ask("ship", any(0, 1000));
            legs(s, 12);
            cleanings(s, 4);
        }
        tables(true);
        for (int i = 0; i < any(1, 9); i++) someLog(any(0, ships - 1));
        ask("terms", any(0, 20), any(0, 3000));
        for (int i = 0; i < any(0, 5); i++) ask("call", any(0, 119));
        for (int round = 0; round < 3; round++) {
            questions(any(0, ships - 1), once(2) ? 119 : any(0, 119));
            change(ships);
        }
    }

    private void change(int ships) {
        switch (any(0, 8)) {
            case 0 -> ask("leave", any(0, 8), any(0, 1));
            case 1 -> ask("alter", any(0, 8), any(1, 255));
            case 2 -> legs(any(0, ships - 1), 3);
            case 3 -> cleanings(any(0, ships - 1), 2);
            case 4 -> ask("image", any(0, 1));
            case 5 -> ask("back", any(0, 1));
            case 6 -> ask("seal");
            case 7 -> someLog(any(0, ships - 1));
            default -> tables(true);
        }
        ask("found");
        ask("status");
    }

    private void questions(int ship, int known) {
        for (int i = 0; i < 6; i++) {
            int day = any(0, 119);
            int to = any(day, 119);
            int what = any(0, 1);
            ask("span", ship, day, known, what);
            ask("why", ship, day, known, what);
            ask("lost", ship, day, to, known, what);
            ask("widest", ship, day, to, known);
            ask("law", ship, day, what);
            ask("share", ship, day, any(0, 1000), any(0, 4));
            ask("of", any(0, 9), any(0, 6));
            ask("quarrel", any(0, 9), any(0, 9));
        }
        ask("quarrels", ship, known, -1);
        ask("quarrels", ship, known, any(0, 5));
        ask("right", ship, known);
        for (int i = 0; i < 10; i++) ask("isRight", i);
        ask("miss", ship, known);
        for (int d = 0; d < 120; d += 7) ask("curve", d);
        int from = any(0, 119);
        int to = any(from, 119);
        ask("plan", ship, from, to, known);
        ask("judge", ship, any(0, 7), from, to, known);
    }

    /** Many looks that quarrel, and proofs of the worthiest of them, whole and broken. */
    private void dispute() {
        ask("ship", 0);
        tables(true);
        cleanings(0, 2);
        int days = once(2) ? 1 : any(2, 60);
        int wide = any(1, 600);
        int worths = once(2) ? 3 : 100;
        int logs = any(8, 24);
        for (int i = 0; i < logs; i++) {
            int low = any(0, 1000);
            ask("look", 0, any(0, days), low, Math.min(1000, low + any(0, wide)), any(1, worths), any(0, 9));
        }
        for (int round = 0; round < 3; round++) {
            int known = any(0, 12);
            ask("quarrels", 0, known, -1);
            int worth = (int) ask("right", 0, known);
            for (int i = 0; i < 24; i++) ask("isRight", i);
            int size = (int) ask("prove", 0, known);
            for (int i = 0; i <= Math.min(size, 60); i++) ask("proof", i);
            ask("count", 6);
            for (int i = 0; i < 6; i++) checkProof(known, worth);
        }
    }

    private void checkProof(int known, int worth) {
        String text = pair.due.proofText();
        if (text == null || text.length() > 360) text = "( 0 [] [1;] )";
        StringBuilder changed = new StringBuilder(text);
        int changes = once(3) ? 0 : any(1, 2);
        for (int i = 0; i < changes && changed.length() > 0; i++) {
            int at = random.nextInt(changed.length());
            switch (any(0, 3)) {
                case 0 -> changed.deleteCharAt(at);
                case 1 -> changed.insert(at, "()[],;0123456789 x".charAt(any(0, 17)));
                case 2 -> changed.setCharAt(at, "()[],;0123456789 ".charAt(any(0, 16)));
                default -> changed.insert(at, ' ');
            }
        }
        feed(changed.toString());
        ask("check", 0, known, worth + (once(3) ? any(-3, 3) : 0));
        ask("fault");
        ask("count", 5);
    }

    private void feed(String text) {
        for (int at = 0; at < text.length(); at += 20) {
            int[] five = new int[5];
            for (int i = 0; i < 20; i++) {
                int sign = at + i < text.length() ? text.charAt(at + i) : any(0, 255);
                five[i / 4] = five[i / 4] << 8 | sign;
            }
            ask("feed", five);
        }
        ask("end", Math.min(400, text.length()));
    }

    /** Logs far from each other, so that curves miss some, and cleanings nobody told are worth their price. */
    private void misses() {
        ask("ship", any(0, 100));
        legs(0, 8);
        cleanings(0, 3);
        tables(once(3) ? false : true);
        for (int i = 0; i < any(1, 16); i++) someLog(0);
        for (int round = 0; round < 2; round++) {
            int known = once(2) ? 119 : any(0, 119);
            ask("miss", 0, known);
            for (int d = 0; d < 120; d++) ask("curve", d);
            ask("hidden", 0, known, once(3) ? any(0, 30) : any(0, 20000));
            for (int i = -1; i < 3; i++) ask("hid", i);
            if (once(2)) ask("leave", any(0, 15), any(0, 1));
        }
    }

    /** The first and the last days, the least and the greatest Z. */
    private void edges() {
        int[] days = {0, 1, 2, 3, 60, 116, 117, 118, 119};
        int[] zs = {0, 0, 1, 5, 10, 100, 500, 999, 1000};
        ask("ship", 0);
        ask("table", 0, 0, any(-12, 3), any(3, 12));
        for (int i = 0; i < any(0, 3); i++) ask("cleaned", 0, days[any(0, 8)], zs[any(0, 8)]);
        for (int i = 0; i < any(1, 12); i++) {
            int a = zs[any(0, 8)];
            int b = zs[any(0, 8)];
            ask("look", 0, days[any(0, 8)], Math.min(a, b), once(2) ? Math.min(a, b) : Math.max(a, b), any(1, 50), 0);
        }
        ask("miss", 0, 0);
        for (int d = 0; d < 120; d++) ask("curve", d);
        ask("hidden", 0, 0, any(0, 40));
        ask("hid", 0);
        ask("hid", 1);
        ask("span", 0, days[any(0, 8)], 0, any(0, 1));
        ask("quarrels", 0, 0, -1);
        ask("right", 0, 0);
    }

    /** As many logs as there can be near one another, so that costs have as many turns as they can. */
    private void crowd() {
        ask("ship", 0);
        ask("table", 0, 0, any(-3, 0), any(0, 3));
        int day = any(0, 110);
        for (int i = 0; i < 24; i++) {
            int low = any(200, 500);
            ask("look", 0, day + any(0, once(2) ? 0 : 9), low, low + any(0, 300), any(1, 100), 0);
        }
        ask("miss", 0, 0);
        for (int d = 0; d < 120; d++) ask("curve", d);
        ask("hidden", 0, 0, any(0, 4000));
        ask("hid", 0);
        ask("hid", 1);
    }

    /** Looks whose proof is as long as one can be, or a byte longer. */
    private void tangle(int[] looks) {
        ask("ship", 0);
        for (int d = 10; d < 120; d += 10) ask("cleaned", 0, d, 1000);
        ask("table", 0, 0, -100, 100);
        for (int i = 0; i < looks.length; i += 4) {
            ask("look", 0, looks[i], looks[i + 1], looks[i + 2], looks[i + 3], i / 4 < 12 ? 0 : 1);
        }
        for (int known = 0; known < 2; known++) {
            int size = (int) ask("prove", 0, known);
            for (int i = 0; i < 300; i++) ask("proof", i * Math.max(1, size / 300));
        }
    }
}
