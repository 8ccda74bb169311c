/** Each promise of the document with answers worked out by hand: ordinary numbers, edges, wrong numbers. */
public final class PromisesTest {
    private static int wrong = 0;
    private static int promise = 0;

    private static void due(String call, long got, long want) {
        if (got != want) {
            wrong++;
            System.out.println("promise " + promise + ": " + call + " answered " + got + ", due is " + want);
        }
    }

    public static void main(String[] args) {
        promise = 1; newObject();
        promise = 2; table();
        promise = 3; ship();
        promise = 4; leg();
        promise = 5; cleaned();
        promise = 6; terms();
        promise = 7; log();
        promise = 8; look();
        promise = 9; of();
        promise = 10; leave();
        promise = 11; law();
        promise = 12; share();
        promise = 13; span();
        promise = 14; why();
        promise = 15; lost();
        promise = 16; widest();
        promise = 17; quarrels();
        promise = 18; quarrel();
        promise = 19; right();
        promise = 20; isRight();
        promise = 21; prove();
        promise = 22; proof();
        promise = 23; feed();
        promise = 24; end();
        promise = 25; check();
        promise = 26; fault();
        promise = 27; miss();
        promise = 28; curve();
        promise = 29; hidden();
        promise = 30; hid();
        promise = 31; call();
        promise = 32; clear();
        promise = 33; plan();
        promise = 34; judge();
        promise = 35; seal();
        promise = 36; alter();
        promise = 37; found();
        promise = 38; image();
        promise = 39; back();
        promise = 40; count();
        promise = 41; status();
        System.out.println(wrong == 0 ? "all answers are as due" : wrong + " answers are not as due");
        if (wrong != 0) System.exit(1);
    }

    /** One ship with base 0, at rest in sea 0 always: it rises by 0 to 10 a day. */
    private static ShipSkins resting() {
        ShipSkins x = new ShipSkins();
        x.ship(0);
        return x;
    }

    /** One ship with base 0, under way at speed 10 always, so that skin's fuel is Z; it rises by 5 to 8 a day. */
    private static ShipSkins sailing() {
        ShipSkins x = new ShipSkins();
        x.ship(0);
        x.leg(0, 0, 0, 10, 0, 0);
        x.table(1, 1, 5, 8);
        return x;
    }

    /** Looks on day 0 of which 0-1, 0-2 and 1-3 quarrel. */
    private static ShipSkins path(int w0, int w1, int w2, int w3) {
        ShipSkins x = resting();
        x.look(0, 0, 0, 10, w0, 0);
        x.look(0, 0, 25, 40, w1, 0);
        x.look(0, 0, 15, 30, w2, 0);
        x.look(0, 0, 5, 20, w3, 0);
        return x;
    }

    private static String proofOf(ShipSkins x) {
        StringBuilder text = new StringBuilder();
        for (int i = 0; i < x.count(6); i++) text.append((char) x.proof(i));
        return text.toString();
    }

    private static void same(String what, String got, String want) {
        if (!got.equals(want)) {
            wrong++;
            System.out.println("promise " + promise + ": " + what + " is " + got + ", due is " + want);
        }
    }

    private static void put(ShipSkins x, String text) {
        for (int at = 0; at < text.length(); at += 20) {
            int[] five = new int[5];
            for (int i = 0; i < 20; i++) {
                five[i / 4] = five[i / 4] << 8 | (at + i < text.length() ? text.charAt(at + i) : 'x');
            }
            x.feed(five[0], five[1], five[2], five[3], five[4]);
        }
        x.end(text.length());
    }

    /** Checks a text as a proof of w: the fault due, or NONE if it is one. */
    private static void checked(ShipSkins x, String text, int w, int fault) {
        put(x, text);
        due("check of " + text + " for " + w, x.check(0, 119, w), fault == -1 ? 1 : 0);
        due("fault of " + text + " for " + w, x.fault(), fault);
        due("the tape behind it", x.count(5), 0);
    }

    private static void newObject() {
        ShipSkins x = new ShipSkins();
        for (int what = 0; what <= 6; what++) due("count(" + what + ")", x.count(what), 0);
        due("status()", x.status(), 0);
        due("span", x.span(0, 0, 0, 0), -1);
        due("why", x.why(0, 0, 0, 0), -1);
        due("lost", x.lost(0, 0, 0, 0, 0), -1);
        due("widest", x.widest(0, 0, 0, 0), -1);
        due("quarrels", x.quarrels(0, 0, -1), -1);
        due("quarrel", x.quarrel(0, 0), -1);
        due("right", x.right(0, 0), -1);
        due("isRight", x.isRight(0), -1);
        due("prove", x.prove(0, 0), -1);
        due("proof", x.proof(0), -1);
        due("check", x.check(0, 0, 0), -1);
        due("fault", x.fault(), -1);
        due("miss", x.miss(0, 0), -1);
        due("curve", x.curve(0), -1);
        due("hidden", x.hidden(0, 0, 0), -1);
        due("hid", x.hid(0), -1);
        due("plan", x.plan(0, 0, 0, 0), -1);
        due("judge", x.judge(0, 0, 0, 0, 0), -1);
        due("law", x.law(0, 0, 0), -1000);
        due("share", x.share(0, 0, 0, 0), -1);
        due("of", x.of(0, 0), -1);
        due("found", x.found(), -3);
        due("seal", x.seal(), 0);
        due("found", x.found(), -1);
    }

    private static void table() {
        ShipSkins x = resting();
        for (int sea = 0; sea <= 5; sea++) {
            x.leg(0, sea, sea, 0, 0, 0);
            due("law at rest", x.law(0, sea, 0), 0);
            due("law at rest", x.law(0, sea, 1), 10);
            due("table(0, sea)", x.table(0, sea, sea - 50, sea + 50), 0);
        }
        for (int pace = 0; pace <= 3; pace++) {
            x.leg(0, 10 + pace, 0, pace * 8 + 6, 0, 0);
            due("law under way", x.law(0, 10 + pace, 0), -10);
            due("law under way", x.law(0, 10 + pace, 1), 0);
            due("table(1, pace)", x.table(1, pace, pace - 20, pace - 20), 0);
        }
        due("table(0, 6, 1, 2)", x.table(0, 6, 1, 2), -1);
        due("table(0, -1, 1, 2)", x.table(0, -1, 1, 2), -1);
        due("table(1, 4, 1, 2)", x.table(1, 4, 1, 2), -1);
        due("table(2, 0, 1, 2)", x.table(2, 0, 1, 2), -1);
        due("table(-1, 0, 1, 2)", x.table(-1, 0, 1, 2), -1);
        due("table(0, 0, -101, 2)", x.table(0, 0, -101, 2), -1);
        due("table(0, 0, 1, 101)", x.table(0, 0, 1, 101), -1);
        due("table(0, 0, 2, 1)", x.table(0, 0, 2, 1), -1);
        for (int sea = 0; sea <= 5; sea++) {
            due("law at rest", x.law(0, sea, 0), sea - 50);
            due("law at rest", x.law(0, sea, 1), sea + 50);
        }
        for (int pace = 0; pace <= 3; pace++) due("law under way", x.law(0, 10 + pace, 1), pace - 20);
        due("table(0, 0, -100, 100)", x.table(0, 0, -100, 100), 0);
        due("law", x.law(0, 0, 0), -100);
        due("law", x.law(0, 0, 1), 100);
    }

    private static void ship() {
        ShipSkins x = new ShipSkins();
        due("ship(-1)", x.ship(-1), -1);
        due("ship(1001)", x.ship(1001), -1);
        due("ship(0)", x.ship(0), 0);
        due("ship(1000)", x.ship(1000), 1);
        due("ship(500)", x.ship(500), 2);
        due("ship(500)", x.ship(500), -5);
        due("ship(1001)", x.ship(1001), -1);
        due("count(0)", x.count(0), 3);
        x.leg(1, 0, 0, 10, 0, 0);
        due("fuel of base 1000", x.share(1, 0, 0, 4), 1000);
    }

    private static void leg() {
        ShipSkins x = resting();
        due("leg", x.leg(0, 0, 5, 30, 20, 100), 1);
        due("leg of day -1", x.leg(0, -1, 0, 0, 0, 0), -1);
        due("leg of day 120", x.leg(0, 120, 0, 0, 0, 0), -1);
        due("leg in sea -1", x.leg(0, 0, -1, 0, 0, 0), -1);
        due("leg in sea 6", x.leg(0, 0, 6, 0, 0, 0), -1);
        due("leg at speed -1", x.leg(0, 0, 0, -1, 0, 0), -1);
        due("leg at speed 31", x.leg(0, 0, 0, 31, 0, 0), -1);
        due("leg in wind -1", x.leg(0, 0, 0, 0, -1, 0), -1);
        due("leg in wind 21", x.leg(0, 0, 0, 0, 21, 0), -1);
        due("leg with load -1", x.leg(0, 0, 0, 0, 0, -1), -1);
        due("leg with load 101", x.leg(0, 0, 0, 0, 0, 101), -1);
        due("leg of ship 1", x.leg(1, 0, 0, 0, 0, 0), -2);
        due("leg of ship -1", x.leg(-1, 0, 0, 0, 0, 0), -2);
        due("leg of ship 1 on day 120", x.leg(1, 120, 0, 0, 0, 0), -1);
        due("fuel by the leg", x.share(0, 119, 0, 4), (400 * 30 + 100 * 30) / 100);
        due("leg behind", x.leg(0, 50, 0, 0, 0, 0), 2);
        due("leg on the same day, told last", x.leg(0, 50, 1, 10, 0, 0), 3);
        due("leg ahead, told last", x.leg(0, 20, 2, 20, 0, 0), 4);
        due("day 19", x.share(0, 19, 100, 3), 900);
        due("day 20", x.share(0, 20, 100, 3), 400);
        due("day 49", x.share(0, 49, 100, 3), 400);
        due("day 50", x.share(0, 50, 100, 3), 100);
        due("day 119", x.share(0, 119, 100, 3), 100);
        x.ship(0);
        due("another ship's leg", x.leg(1, 0, 0, 5, 0, 0), 5);
        due("its day 119", x.share(1, 119, 100, 3), 25);
        for (int n = 6; n <= 60; n++) due("leg " + n, x.leg(0, 119, 0, n % 30, 0, 0), n);
        due("leg 61", x.leg(0, 0, 0, 0, 0, 0), -5);
        due("leg 61 of ship 2", x.leg(2, 0, 0, 0, 0, 0), -2);
        due("count(1)", x.count(1), 60);
        due("day 0 without a leg", resting().law(0, 0, 1), 10);
    }

    private static void cleaned() {
        ShipSkins x = resting();
        due("cleaned(0, 10, 1000)", x.cleaned(0, 10, 1000), 1);
        due("cleaned(0, 10, 5)", x.cleaned(0, 10, 5), -4);
        due("cleaned(0, -1, 5)", x.cleaned(0, -1, 5), -1);
        due("cleaned(0, 120, 5)", x.cleaned(0, 120, 5), -1);
        due("cleaned(0, 11, -1)", x.cleaned(0, 11, -1), -1);
        due("cleaned(0, 11, 1001)", x.cleaned(0, 11, 1001), -1);
        due("cleaned(1, 11, 5)", x.cleaned(1, 11, 5), -2);
        due("cleaned(1, 11, 1001)", x.cleaned(1, 11, 1001), -1);
        x.ship(0);
        due("cleaned(1, 10, 7)", x.cleaned(1, 10, 7), 2);
        due("cleaned(0, 0, 30)", x.cleaned(0, 0, 30), 3);
        due("span of day 0", x.span(0, 0, 0, 1), 30);
        due("span of day 9", x.span(0, 9, 0, 1), 120);
        due("span of day 10", x.span(0, 10, 0, 1), 1000);
        due("span of ship 1", x.span(1, 10, 0, 1), 7);
        due("span of ship 1 ahead", x.span(1, 9, 0, 1), 1000);
        for (int n = 4; n <= 40; n++) due("cleaned " + n, x.cleaned(1, n + 60, 0), n);
        due("cleaned 41", x.cleaned(1, 119, 0), -5);
        due("cleaned twice without room", x.cleaned(1, 64, 0), -4);
        due("count(2)", x.count(2), 40);
    }

    private static void terms() {
        ShipSkins x = sailing();
        x.look(0, 0, 100, 100, 1, 0);
        x.call(0);
        due("judge at first", x.judge(0, 1, 0, 1, 0), 8 + 100);
        due("terms(-1, 0)", x.terms(-1, 0), -1);
        due("terms(1001, 0)", x.terms(1001, 0), -1);
        due("terms(0, -1)", x.terms(0, -1), -1);
        due("terms(0, 100001)", x.terms(0, 100001), -1);
        due("judge as it was", x.judge(0, 1, 0, 1, 0), 8 + 100);
        due("terms(1000, 100000)", x.terms(1000, 100000), 0);
        due("judge", x.judge(0, 1, 0, 1, 0), 108000);
        due("terms(0, 0)", x.terms(0, 0), 0);
        due("judge", x.judge(0, 1, 0, 1, 0), 0);
    }

    private static void log() {
        ShipSkins x = new ShipSkins();
        x.ship(10);
        x.leg(0, 5, 0, 3, 5, 20);
        due("log at rest", x.log(0, 4, 5, 0, 1, 0), -3);
        due("log on day -1", x.log(0, -1, 5, 0, 1, 0), -1);
        due("log on day 120", x.log(0, 120, 5, 0, 1, 0), -1);
        due("log of fuel -1", x.log(0, 5, -1, 0, 1, 0), -1);
        due("log of fuel 100001", x.log(0, 5, 100001, 0, 1, 0), -1);
        due("log off by -1", x.log(0, 5, 5, -1, 1, 0), -1);
        due("log off by 1001", x.log(0, 5, 5, 1001, 1, 0), -1);
        due("log of worth 0", x.log(0, 5, 5, 0, 0, 0), -1);
        due("log of worth 101", x.log(0, 5, 5, 0, 101, 0), -1);
        due("log known from -1", x.log(0, 5, 5, 0, 1, -1), -1);
        due("log known from 120", x.log(0, 5, 5, 0, 1, 120), -1);
        due("log of ship 1", x.log(1, 5, 5, 0, 1, 0), -2);
        due("log of ship 1 with worth 0", x.log(1, 5, 5, 0, 0, 0), -1);
        due("log", x.log(0, 5, 5, 0, 1, 0), 0);
        due("500 <= 225 + 9 z", x.of(0, 2), 31);
        due("225 + 9 z <= 599", x.of(0, 3), 41);
        due("log of no Z", x.log(0, 5, 0, 0, 1, 0), 1);
        due("none is as low", x.of(1, 2), -1);
        due("log of fuel 0 off by 2", x.log(0, 119, 0, 2, 1, 0), 2);
        due("225 + 9 z <= 299", x.of(2, 3), 8);
        due("its least", x.of(2, 2), 0);
        due("log with the greatest numbers", x.log(0, 119, 100000, 1000, 100, 119), 3);
        due("none is as high", x.of(3, 3), -1);
        due("log at the top", x.log(0, 5, 92, 2, 1, 0), 4);
        due("9000 <= 225 + 9 z", x.of(4, 2), 975);
        due("the top", x.of(4, 3), 1000);
        for (int n = 5; n < 24; n++) due("log " + n, x.log(0, 5, 5, 0, 1, 0), n);
        due("log 24", x.log(0, 5, 5, 0, 1, 0), -5);
        due("log 24 at rest", x.log(0, 0, 5, 0, 1, 0), -3);
        x.leg(0, 5, 0, 0, 0, 0);
        due("at rest by a leg told later", x.of(0, 2), -1);
        due("at rest by a leg told later", x.of(0, 3), -1);
        x.leg(0, 5, 0, 10, 0, 0);
        due("under way by a leg told later: 1000 + 100 z <= 599", x.of(0, 2), -1);
        x.leg(0, 5, 0, 1, 0, 0);
        due("500 <= 10 + z", x.of(0, 2), 490);
        due("10 + z <= 599", x.of(0, 3), 589);
    }

    private static void look() {
        ShipSkins x = resting();
        due("look on day -1", x.look(0, -1, 0, 0, 1, 0), -1);
        due("look on day 120", x.look(0, 120, 0, 0, 1, 0), -1);
        due("look from -1", x.look(0, 0, -1, 0, 1, 0), -1);
        due("look to 1001", x.look(0, 0, 0, 1001, 1, 0), -1);
        due("look from 1001", x.look(0, 0, 1001, 1001, 1, 0), -1);
        due("look from 2 to 1", x.look(0, 0, 2, 1, 1, 0), -1);
        due("look of worth 0", x.look(0, 0, 0, 0, 0, 0), -1);
        due("look of worth 101", x.look(0, 0, 0, 0, 101, 0), -1);
        due("look known from -1", x.look(0, 0, 0, 0, 1, -1), -1);
        due("look known from 120", x.look(0, 0, 0, 0, 1, 120), -1);
        due("look at ship 1", x.look(1, 0, 0, 0, 1, 0), -2);
        due("look at ship 1 from 2 to 1", x.look(1, 0, 2, 1, 1, 0), -1);
        due("look", x.look(0, 119, 0, 1000, 100, 119), 0);
        due("look", x.look(0, 0, 1000, 1000, 1, 0), 1);
        for (int n = 2; n < 24; n++) due("look " + n, x.look(0, 0, 0, 0, 1, 0), n);
        due("look 24", x.look(0, 0, 0, 0, 1, 0), -5);
        due("look 24 at ship 1", x.look(1, 0, 0, 0, 1, 0), -2);
    }

    private static void of() {
        ShipSkins x = resting();
        x.ship(0);
        x.look(1, 33, 44, 55, 66, 77);
        int[] want = {1, 33, 44, 55, 66, 77, 0, -1};
        for (int what = 0; what < want.length; what++) due("of(0, " + what + ")", x.of(0, what), want[what]);
        due("of(0, -1)", x.of(0, -1), -1);
        due("of(1, 0)", x.of(1, 0), -1);
        due("of(-1, 0)", x.of(-1, 0), -1);
        x.leave(0, 1);
        due("of(0, 6)", x.of(0, 6), 1);
        x.alter(0, 64);
        due("of(0, 2) of a look from 108 to 55", x.of(0, 2), -1);
        due("of(0, 3) of a look from 108 to 55", x.of(0, 3), -1);
        due("of(0, 4)", x.of(0, 4), 66);
    }

    private static void leave() {
        ShipSkins x = resting();
        x.look(0, 0, 0, 0, 1, 0);
        due("leave(0, 2)", x.leave(0, 2), -1);
        due("leave(0, -1)", x.leave(0, -1), -1);
        due("leave(1, 0)", x.leave(1, 0), -2);
        due("leave(-1, 0)", x.leave(-1, 0), -2);
        due("leave(1, 2)", x.leave(1, 2), -1);
        due("span", x.span(0, 0, 0, 1), 0);
        due("leave(0, 1)", x.leave(0, 1), 0);
        due("span", x.span(0, 0, 0, 1), 1000);
        due("leave(0, 1) again", x.leave(0, 1), 0);
        due("leave(0, 0)", x.leave(0, 0), 0);
        due("span", x.span(0, 0, 0, 1), 0);
    }

    private static void law() {
        ShipSkins x = resting();
        x.leg(0, 10, 3, 7, 0, 0);
        x.leg(0, 20, 3, 8, 0, 0);
        x.leg(0, 30, 3, 24, 0, 0);
        x.leg(0, 40, 3, 0, 0, 0);
        x.table(1, 0, 1, 2);
        x.table(1, 1, 3, 4);
        x.table(1, 3, 5, 6);
        x.table(0, 3, 7, 8);
        due("law(0, 9, 0)", x.law(0, 9, 0), 0);
        due("law(0, 9, 1)", x.law(0, 9, 1), 10);
        due("law(0, 10, 0)", x.law(0, 10, 0), 1);
        due("law(0, 19, 1)", x.law(0, 19, 1), 2);
        due("law(0, 20, 1)", x.law(0, 20, 1), 4);
        due("law(0, 30, 0)", x.law(0, 30, 0), 5);
        due("law(0, 118, 1)", x.law(0, 118, 1), 8);
        due("law(0, 119, 1)", x.law(0, 119, 1), -1000);
        due("law(0, -1, 1)", x.law(0, -1, 1), -1000);
        due("law(0, 0, 2)", x.law(0, 0, 2), -1000);
        due("law(0, 0, -1)", x.law(0, 0, -1), -1000);
        due("law(1, 0, 0)", x.law(1, 0, 0), -1000);
        due("law(-1, 0, 0)", x.law(-1, 0, 0), -1000);
        x.cleaned(0, 12, 0);
        due("law to a day on which it was cleaned", x.law(0, 11, 0), -1000);
        due("law from a day on which it was cleaned", x.law(0, 12, 0), 1);
        x.cleaned(0, 119, 0);
        due("law to day 119", x.law(0, 118, 1), -1000);
    }

    private static void share() {
        ShipSkins x = new ShipSkins();
        x.ship(10);
        x.leg(0, 5, 0, 3, 5, 20);
        int[] threeRests = {1, 1, 0, 1, 3};
        for (int what = 0; what <= 4; what++) due("90 75 60 90", x.share(0, 5, 10, what), threeRests[what]);
        int[] oneRest = {1, 1, 0, 9, 11};
        for (int what = 0; what <= 4; what++) due("90 75 60 900", x.share(0, 5, 100, what), oneRest[what]);
        due("share at rest", x.share(0, 4, 10, 0), 0);
        due("fuel at rest", x.share(0, 4, 10, 4), 0);
        due("share on day 120", x.share(0, 120, 10, 0), -1);
        due("share on day -1", x.share(0, -1, 10, 0), -1);
        due("share at rest with Z 1001", x.share(0, 4, 1001, 0), -1);
        due("share with Z -1", x.share(0, 5, -1, 0), -1);
        due("share 5", x.share(0, 5, 10, 5), -1);
        due("share -1", x.share(0, 5, 10, -1), -1);
        due("share of ship 1", x.share(1, 5, 10, 0), -1);
        x.ship(2);
        x.leg(1, 0, 0, 5, 0, 0);
        int[] alike = {1, 0, 0, 0, 1};
        for (int what = 0; what <= 4; what++) due("50 0 0 50", x.share(1, 0, 2, what), alike[what]);
        x.ship(1000);
        x.leg(2, 0, 0, 30, 20, 100);
        int[] most = {9000, 120, 30, 9000, 18150};
        for (int what = 0; what <= 4; what++) due("the most", x.share(2, 0, 1000, what), most[what]);
        ShipSkins y = new ShipSkins();
        y.ship(11);
        y.leg(0, 0, 0, 3, 0, 0);
        due("99 through 100", y.share(0, 0, 0, 4), 0);
        due("99 through 100", y.share(0, 0, 0, 0), 0);
        due("108 through 100", y.share(0, 0, 1, 4), 1);
    }

    private static void span() {
        ShipSkins x = resting();
        due("span without logs", x.span(0, 0, 0, 0), 0);
        due("span without logs", x.span(0, 119, 0, 1), 1000);
        x.look(0, 50, 300, 400, 1, 10);
        due("as known ahead", x.span(0, 50, 9, 1), 1000);
        due("the log's day, least", x.span(0, 50, 10, 0), 300);
        due("the log's day, greatest", x.span(0, 50, 10, 1), 400);
        due("10 days ahead", x.span(0, 40, 10, 0), 200);
        due("10 days ahead", x.span(0, 40, 10, 1), 400);
        due("10 days behind", x.span(0, 60, 10, 0), 300);
        due("10 days behind", x.span(0, 60, 10, 1), 500);
        due("it can't be below 0", x.span(0, 0, 10, 0), 0);
        x.cleaned(0, 55, 60);
        due("cleaned", x.span(0, 55, 10, 0), 0);
        due("cleaned", x.span(0, 55, 10, 1), 60);
        due("behind that", x.span(0, 60, 10, 1), 110);
        due("ahead of that", x.span(0, 54, 10, 0), 300);
        due("ahead of that", x.span(0, 54, 10, 1), 440);
        x.look(0, 59, 101, 200, 1, 20);
        due("none, for 60 and 40 are 100 at most", x.span(0, 0, 20, 0), -1);
        due("none, for 60 and 40 are 100 at most", x.span(0, 119, 20, 1), -1);
        due("as known ahead of that", x.span(0, 59, 19, 1), 100);
        x.leave(1, 1);
        due("left out", x.span(0, 59, 20, 1), 100);
        due("what 2", x.span(0, 0, 0, 2), -1);
        due("what -1", x.span(0, 0, 0, -1), -1);
        due("day 120", x.span(0, 120, 0, 0), -1);
        due("day -1", x.span(0, -1, 0, 0), -1);
        due("known 120", x.span(0, 0, 120, 0), -1);
        due("known -1", x.span(0, 0, -1, 0), -1);
        due("ship 1", x.span(1, 0, 0, 0), -1);
        ShipSkins y = sailing();
        due("it must rise by 5 a day for 119 days", y.span(0, 0, 0, 1), 1000 - 5 * 119);
        due("it has risen by 5 a day", y.span(0, 119, 0, 0), 595);
        y.table(1, 1, 9, 9);
        due("no curve: it can't rise by 9 a day", y.span(0, 0, 0, 0), -1);
        y.cleaned(0, 60, 1000);
        due("a curve again", y.span(0, 59, 0, 0), 59 * 9);
        ShipSkins z = resting();
        z.cleaned(0, 0, 5);
        z.look(0, 0, 6, 9, 1, 0);
        due("none by day 0 alone", z.span(0, 1, 0, 0), -1);
        z.cleaned(0, 119, 5);
        z.leave(0, 1);
        z.look(0, 119, 6, 9, 1, 1);
        due("some", z.span(0, 1, 0, 0), 0);
        due("none by day 119 alone", z.span(0, 1, 1, 0), -1);
    }

    private static void why() {
        ShipSkins x = resting();
        x.look(0, 50, 300, 400, 1, 0);
        x.look(0, 60, 300, 400, 1, 0);
        x.look(0, 60, 350, 400, 1, 5);
        x.look(0, 60, 350, 400, 1, 0);
        due("the least of day 50 as known on day 0", x.why(0, 50, 0, 0), 0);
        due("the least of day 60: 350, by log 3 alone as known on day 0", x.why(0, 60, 0, 0), 3);
        due("the least of day 60 as known on day 5", x.why(0, 60, 5, 0), 2);
        due("the greatest of day 60", x.why(0, 60, 5, 1), 1);
        due("the greatest of day 50", x.why(0, 50, 5, 1), 0);
        due("the greatest of day 65: 450", x.why(0, 65, 5, 1), 1);
        due("the greatest of day 119 is 990", x.why(0, 119, 5, 1), 1);
        due("the least of day 0 is so without logs", x.why(0, 0, 5, 0), -1);
        x.leave(2, 1);
        due("left out", x.why(0, 60, 5, 0), 3);
        x.look(0, 0, 1000, 1000, 1, 9);
        due("no curve", x.why(0, 60, 9, 0), -1);
        due("what 2", x.why(0, 60, 0, 2), -1);
        due("day 120", x.why(0, 120, 0, 0), -1);
        due("known 120", x.why(0, 60, 120, 0), -1);
        due("ship 1", x.why(1, 60, 0, 0), -1);
        ShipSkins y = resting();
        y.look(0, 0, 0, 1000, 1, 0);
        due("a log that says what is so by curves alone", y.why(0, 0, 0, 1), -1);
    }

    private static void lost() {
        ShipSkins x = new ShipSkins();
        x.ship(700);
        x.leg(0, 1, 0, 3, 20, 100);
        x.leg(0, 3, 0, 0, 0, 0);
        x.leg(0, 5, 0, 10, 0, 0);
        x.look(0, 0, 100, 120, 1, 0);
        due("day 0 is at rest", x.lost(0, 0, 0, 0, 1), 0);
        due("9 times 130 through 100, twice cut", x.lost(0, 0, 2, 0, 1), 11 + 11);
        due("9 times 100, 9 times 90 through 100", x.lost(0, 0, 2, 0, 0), 9 + 8);
        due("at rest", x.lost(0, 3, 4, 0, 1), 0);
        due("days 3 to 5 at least", x.lost(0, 3, 5, 0, 0), 80);
        due("days 3 to 5 at most", x.lost(0, 3, 5, 0, 1), 150);
        due("one day", x.lost(0, 5, 5, 0, 1), 150);
        due("to ahead of from", x.lost(0, 5, 4, 0, 1), -1);
        due("from -1", x.lost(0, -1, 4, 0, 1), -1);
        due("to 120", x.lost(0, 0, 120, 0, 1), -1);
        due("known 120", x.lost(0, 0, 1, 120, 1), -1);
        due("ship 1", x.lost(1, 0, 1, 0, 1), -1);
        due("what 2", x.lost(0, 0, 1, 0, 2), -1);
        x.look(0, 0, 0, 1, 1, 3);
        due("no curve", x.lost(0, 0, 1, 3, 0), -1);
        due("as known ahead of that", x.lost(0, 0, 2, 2, 0), 17);
    }

    private static void widest() {
        ShipSkins x = resting();
        x.look(0, 50, 300, 400, 1, 0);
        due("of all days: 0 to 400 from day 0 to 20, then less; 300 to 1000 from 110 on", x.widest(0, 0, 119, 0), 110);
        due("the first of alike ones", x.widest(0, 0, 60, 0), 0);
        due("the first of alike ones", x.widest(0, 5, 60, 0), 5);
        due("growing", x.widest(0, 50, 60, 0), 60);
        due("falling", x.widest(0, 40, 50, 0), 40);
        due("one day", x.widest(0, 50, 50, 0), 50);
        due("to ahead of from", x.widest(0, 51, 50, 0), -1);
        due("from -1", x.widest(0, -1, 50, 0), -1);
        due("to 120", x.widest(0, 0, 120, 0), -1);
        due("known 120", x.widest(0, 0, 50, 120), -1);
        due("ship 1", x.widest(1, 0, 50, 0), -1);
        x.look(0, 50, 0, 0, 1, 1);
        due("no curve", x.widest(0, 0, 50, 1), -1);
    }

    private static void quarrels() {
        ShipSkins x = path(1, 1, 1, 1);
        due("how many", x.quarrels(0, 0, -1), 3);
        due("0 and 1", x.quarrels(0, 0, 0), 1);
        due("0 and 2", x.quarrels(0, 0, 1), 2);
        due("1 and 3", x.quarrels(0, 0, 2), 27);
        due("no more", x.quarrels(0, 0, 3), -1);
        due("i -2", x.quarrels(0, 0, -2), -1);
        due("known 120", x.quarrels(0, 120, -1), -1);
        due("ship 1", x.quarrels(1, 0, -1), -1);
        x.leave(0, 1);
        due("how many are left", x.quarrels(0, 0, -1), 1);
        due("1 and 3", x.quarrels(0, 0, 0), 27);
        x.cleaned(0, 30, 5);
        x.look(0, 30, 6, 9, 1, 4);
        due("as known ahead", x.quarrels(0, 3, -1), 1);
        due("one that no curve meets, with each and itself", x.quarrels(0, 4, -1), 5);
        due("1 and 3", x.quarrels(0, 4, 0), 27);
        due("1 and 4", x.quarrels(0, 4, 1), 28);
        due("2 and 4", x.quarrels(0, 4, 2), 52);
        due("3 and 4", x.quarrels(0, 4, 3), 76);
        due("4 and 4", x.quarrels(0, 4, 4), 100);
        x.ship(0);
        due("another ship's", x.quarrels(1, 119, -1), 0);
        x.alter(1, 64);
        due("one that can't be read quarrels no more", x.quarrels(0, 3, -1), 0);
    }

    private static void quarrel() {
        ShipSkins x = path(1, 1, 1, 1);
        due("0 and 1", x.quarrel(0, 1), 1);
        due("1 and 0", x.quarrel(1, 0), 1);
        due("0 and 3", x.quarrel(0, 3), 0);
        due("0 and 0", x.quarrel(0, 0), 0);
        due("0 and 4", x.quarrel(0, 4), -1);
        due("-1 and 0", x.quarrel(-1, 0), -1);
        x.leave(0, 1);
        due("left out", x.quarrel(0, 1), 1);
        x.ship(0);
        x.cleaned(1, 0, 5);
        x.look(1, 0, 50, 50, 1, 119);
        due("one that no curve meets", x.quarrel(4, 4), 1);
        due("of two ships", x.quarrel(4, 0), 0);
        due("of two ships", x.quarrel(0, 4), 0);
        x.look(1, 0, 0, 5, 1, 0);
        due("with one that no curve meets", x.quarrel(5, 4), 1);
        due("a good one", x.quarrel(5, 5), 0);
        x.alter(4, 64);
        due("one that can't be read", x.quarrel(4, 4), -1);
        due("one that can't be read, of two ships", x.quarrel(0, 4), -1);
        due("one that can't be read, of two ships", x.quarrel(4, 0), -1);
        ShipSkins y = resting();
        y.look(0, 10, 100, 100, 1, 0);
        y.look(0, 20, 200, 200, 1, 0);
        y.look(0, 20, 201, 201, 1, 0);
        y.look(0, 20, 99, 99, 1, 0);
        due("just so much in ten days", y.quarrel(0, 1), 0);
        due("more than in ten days", y.quarrel(0, 2), 1);
        due("less than before", y.quarrel(0, 3), 1);
        y.cleaned(0, 15, 1000);
        due("cleaned between", y.quarrel(0, 3), 0);
    }

    private static void right() {
        due("no logs", resting().right(0, 0), 0);
        due("the most worth", path(1, 1, 1, 1).right(0, 0), 2);
        due("one is worth more", path(9, 1, 1, 1).right(0, 0), 10);
        ShipSkins x = resting();
        x.look(0, 0, 0, 0, 2, 0);
        x.look(0, 0, 100, 100, 1, 0);
        x.look(0, 0, 100, 100, 1, 3);
        due("as known on day 2", x.right(0, 2), 2);
        due("0 is in it", x.isRight(0), 1);
        due("as known on day 3", x.right(0, 3), 2);
        due("of alike ones the most logs: 0 is not", x.isRight(0), 0);
        due("of alike ones the most logs: 1 is", x.isRight(1), 1);
        due("of alike ones the most logs: 2 is", x.isRight(2), 1);
        due("known 120", x.right(0, 120), -1);
        due("known -1", x.right(0, -1), -1);
        due("ship 1", x.right(1, 0), -1);
        due("the latest stays", x.isRight(2), 1);
        ShipSkins y = path(1, 1, 1, 1);
        y.right(0, 0);
        due("0, 3 and 1, 2 and 2, 3 are alike: 0 is in it", y.isRight(0), 1);
        due("0, 3 and 1, 2 and 2, 3 are alike: 1 is not", y.isRight(1), 0);
        due("0, 3 and 1, 2 and 2, 3 are alike: 2 is not", y.isRight(2), 0);
        due("0, 3 and 1, 2 and 2, 3 are alike: 3 is in it", y.isRight(3), 1);
        ShipSkins z = sailing();
        z.look(0, 10, 0, 0, 100, 0);
        z.look(0, 10, 50, 60, 1, 0);
        due("one that quarrels with itself is in none", z.right(0, 0), 1);
        due("it", z.isRight(0), 0);
        z.table(1, 1, 9, 9);
        due("no curve", z.right(0, 0), 0);
    }

    private static void isRight() {
        ShipSkins x = path(1, 1, 9, 1);
        due("ahead of any", x.isRight(0), -1);
        x.prove(0, 0);
        due("a proof is no right", x.isRight(0), -1);
        x.right(0, 0);
        due("0", x.isRight(0), 0);
        due("1", x.isRight(1), 1);
        due("2", x.isRight(2), 1);
        due("3", x.isRight(3), 0);
        due("4", x.isRight(4), -1);
        due("-1", x.isRight(-1), -1);
        x.look(0, 0, 25, 30, 1, 0);
        due("a log told later", x.isRight(4), 0);
    }

    private static void prove() {
        ShipSkins x = path(1, 1, 1, 1);
        due("bytes", x.prove(0, 0), 11);
        same("the proof", proofOf(x), "(0[][1,3;])");
        due("known 120", x.prove(0, 120), -1);
        due("ship 1", x.prove(1, 0), -1);
        same("the latest", proofOf(x), "(0[][1,3;])");
        ShipSkins empty = resting();
        due("no logs", empty.prove(0, 0), 2);
        same("the proof", proofOf(empty), "[]");
        ShipSkins lone = path(1, 1, 1, 1);
        lone.leave(1, 1);
        lone.leave(2, 1);
        due("no quarrels", lone.prove(0, 0), 2);
        ShipSkins y = resting();
        for (int i = 0; i < 12; i++) y.look(0, 0, i * 10, i * 10 + 5, 1 + i % 3, 0);
        y.look(0, 0, 0, 1000, 7, 0);
        y.prove(0, 0);
        same("a group of many", proofOf(y), "[0,1,2,3,4,5,6,7,8,9,10,11;]");
        y.cleaned(0, 50, 3);
        y.look(0, 50, 4, 4, 100, 0);
        y.prove(0, 0);
        same("one that quarrels with itself is not open", proofOf(y), "[0,1,2,3,4,5,6,7,8,9,10,11;]");
        tooLong();
    }

    static final int[] OF_2000 = {
        22, 700, 720, 2, 0, 520, 680, 1, 22, 620, 660, 4, 2, 560, 560, 2, 1, 500, 680, 4, 42, 0, 180, 4,
        20, 500, 620, 1, 2, 600, 620, 3, 22, 620, 1000, 1, 42, 260, 840, 4, 2, 140, 500, 3, 20, 100, 420, 1,
        41, 620, 960, 1, 2, 720, 880, 3, 22, 140, 600, 4, 22, 780, 1000, 4, 41, 0, 160, 2, 22, 180, 400, 2,
        42, 320, 420, 1, 20, 700, 1000, 2, 0, 600, 640, 3, 20, 680, 1000, 2, 20, 360, 560, 2, 0, 700, 1000, 4};
    static final int[] OF_2001 = {
        0, 520, 680, 1, 42, 520, 620, 2, 22, 620, 660, 4, 40, 340, 760, 4, 0, 620, 1000, 3, 40, 160, 260, 3,
        0, 260, 680, 3, 2, 600, 620, 3, 22, 620, 1000, 1, 2, 560, 560, 2, 41, 100, 300, 2, 20, 100, 420, 1,
        2, 120, 520, 3, 1, 780, 1000, 2, 20, 500, 620, 1, 22, 140, 600, 4, 22, 780, 1000, 3, 22, 120, 360, 2,
        41, 760, 1000, 2, 20, 360, 560, 2, 1, 120, 440, 1, 20, 700, 1000, 2, 20, 680, 1000, 2, 0, 700, 1000, 4};

    /** Three tangles of looks that have nothing to do with one another: the proof of each stands within the others'. */
    private static ShipSkins tangled(int[] looks) {
        ShipSkins x = resting();
        for (int d = 10; d < 120; d += 10) x.cleaned(0, d, 1000);
        x.table(0, 0, -100, 100);
        for (int i = 0; i < looks.length; i += 4) {
            x.look(0, looks[i], looks[i + 1], looks[i + 2], looks[i + 3], i / 4 < 12 ? 0 : 1);
        }
        return x;
    }

    private static void tooLong() {
        due("a proof of 2000 bytes", tangled(OF_2000).prove(0, 1), 2000);
        ShipSkins x = tangled(OF_2001);
        x.prove(0, 0);
        same("the proof of twelve of them", proofOf(x), "(1[7,9;][3,5;7,9;])");
        due("a proof of 2001 bytes", x.prove(0, 1), -1);
        same("the latest stays", proofOf(x), "(1[7,9;][3,5;7,9;])");
    }

    private static void proof() {
        ShipSkins x = path(1, 1, 1, 1);
        due("ahead of any", x.proof(0), -1);
        x.prove(0, 0);
        due("the first", x.proof(0), '(');
        due("the second", x.proof(1), '0');
        due("the last", x.proof(10), ')');
        due("behind it", x.proof(11), -1);
        due("ahead of it", x.proof(-1), -1);
        x.leave(0, 1);
        x.prove(0, 0);
        same("a shorter one", proofOf(x), "[1,3;]");
        due("nothing is left of the longer one", x.proof(6), -1);
    }

    private static void feed() {
        ShipSkins x = resting();
        for (int n = 1; n <= 20; n++) due("feed " + n, x.feed(0, 0, 0, 0, 0), 20 * n);
        due("more than 400", x.feed(0, 0, 0, 0, 0), -1);
        due("it has as many as before", x.count(5), 400);
        x.end(381);
        due("401", x.feed(0, 0, 0, 0, 0), -1);
        x.end(380);
        due("400", x.feed(0, 0, 0, 0, 0), 400);
        x.end(0);
        due("the highest byte first", x.feed('[' << 24 | ']' << 16 | ' ' << 8 | ' ', 0x20202020, 0x20202020,
            0x20202020, 0x20202020), 20);
        due("it is a proof", x.check(0, 0, 0), 1);
        due("bytes above 127", x.feed(0x80FFFFFF, -1, -1, -1, -1), 20);
        due("are no proof", x.check(0, 0, 0), 0);
        due("by the first", x.fault(), 0);
        put(x, "[" + (char) 219 + "]");
        due("byte 219 is not 91", x.check(0, 0, 0), 0);
        due("its place", x.fault(), 1);
    }

    private static void end() {
        ShipSkins x = resting();
        due("of none", x.end(0), 0);
        due("more than it has", x.end(1), -1);
        x.feed(0x5B5D7878, 0, 0, 0, 0);
        due("21", x.end(21), -1);
        due("-1", x.end(-1), -1);
        due("20", x.end(20), 20);
        due("2", x.end(2), 2);
        due("no more than it has", x.end(3), -1);
        due("count(5)", x.count(5), 2);
        due("its first bytes are left", x.check(0, 0, 0), 1);
    }

    private static void check() {
        ShipSkins x = path(1, 1, 1, 1);
        checked(x, "(0[][1,3;])", 2, -1);
        checked(x, "(0[][1,3;])", 3, -1);
        checked(x, "(0[][1,3;])", 1, 3);
        checked(x, "(0[][1,3;])", -5, 3);
        checked(x, " ( 00 [ ] [ 0000000000000000000000001 , 03 ; ] ) ", 2, -1);
        checked(x, "(0[][3,1;])", 2, -1);
        checked(x, "[]", 4, -1);
        checked(x, "[]", 3, 1);
        checked(x, "[0,1;]", 3, -1);
        checked(x, "[0,1;]", 2, 5);
        checked(x, "[2,0;1,3;]", 2, -1);
        checked(x, "[2,0;3,1;]", 1, 9);
        checked(x, "[0;1;2;3;]", 4, -1);
        checked(x, "[0;0;]", 9, 3);
        checked(x, "[0,0;]", 9, 3);
        checked(x, "[0,3;]", 9, 3);
        checked(x, "[0,1,2;]", 9, 5);
        checked(x, "[0,1;2,0;]", 9, 7);
        checked(x, "[4;]", 9, 1);
        checked(x, "[99999999999999999999;]", 9, 1);
        checked(x, "[4294967296;]", 9, 1);
        checked(x, "[0]", 9, 2);
        checked(x, "[0,]", 9, 3);
        checked(x, "[0;;]", 9, 3);
        checked(x, "[,0;]", 9, 1);
        checked(x, "[0 0;]", 9, 3);
        checked(x, "[0,1", 9, 4);
        checked(x, "[0,1  ", 9, 6);
        checked(x, "", 9, 0);
        checked(x, "   ", 9, 3);
        checked(x, "0", 9, 0);
        checked(x, ")", 9, 0);
        checked(x, "[][]", 9, 2);
        checked(x, "[] ]", 9, 3);
        checked(x, "[\t]", 9, 1);
        checked(x, "(0[])", 9, 4);
        checked(x, "(0[][]", 9, 6);
        checked(x, "(0[][][])", 9, 6);
        checked(x, "([][])", 9, 1);
        checked(x, "(4[][])", 9, 1);
        checked(x, "(0(0[][])[])", 9, 3);
        checked(x, "(0(1[][])[])", 9, 3);
        checked(x, "(0(3[][])[])", 9, -1);
        checked(x, "(0[](0[][]))", 9, 5);
        checked(x, "(0[](2[][]))", 9, -1);
        checked(x, "(0[2;][])", 9, 3);
        checked(x, "(0[][0;])", 9, 5);
        checked(path(5, 1, 1, 2), "[0,1;]", 8, -1);
        checked(path(5, 1, 1, 2), "[0,1;]", 7, 5);
        checked(path(5, 1, 1, 2), "(0[][])", 7, -1);
        checked(path(5, 1, 1, 2), "(0[][])", 6, 3);
        checked(path(5, 1, 1, 2), "(2[][])", 7, 5);
        checkDeep();
        checkKnown();
    }

    private static String nest(int deep) {
        StringBuilder text = new StringBuilder();
        for (int i = 0; i < deep; i++) text.append('(').append(i);
        text.append("[]");
        for (int i = 0; i < deep; i++) text.append("[])");
        return text.toString();
    }

    private static String nestBehind(int deep) {
        StringBuilder text = new StringBuilder();
        for (int i = 0; i < deep; i++) text.append('(').append(i).append("[]");
        text.append("[]");
        for (int i = 0; i < deep; i++) text.append(")");
        return text.toString();
    }

    private static void checkDeep() {
        ShipSkins x = resting();
        for (int i = 0; i < 24; i++) x.look(0, 0, 0, 9, 1, 0);
        checked(x, nest(23), 24, -1);
        checked(x, nest(24), 24, nest(24).indexOf('['));
        checked(x, nestBehind(23), 24, -1);
        checked(x, nestBehind(24), 24, nestBehind(24).lastIndexOf('[') - 2);
        checked(x, "[23;22;21;20;19;18;17;16;15;14;13;12;11;10;9;8;7;6;5;4;3;2;1;0;]", 24, -1);
        checked(x, "[23;22;21;20;19;18;17;16;15;14;13;12;11;10;9;8;7;6;5;4;3;2;1;0;0;]", 24, 63);
        checked(x, "[24;]", 24, 1);
        ShipSkins y = resting();
        for (int i = 0; i < 24; i++) y.look(0, 0, i, i, 1, 0);
        checked(y, "[23,22,21,20,19,18,17,16,15,14,13,12,11,10,9,8,7,6,5,4,3,2,1,0;]", 1, -1);
        checked(y, "[23,22,21,20,19,18,17,16,15,14,13,12,11,10,9,8,7,6,5,4,3,2,1,0,0;]", 1, 63);
    }

    private static void checkKnown() {
        ShipSkins x = resting();
        x.look(0, 0, 0, 0, 5, 0);
        x.look(0, 0, 9, 9, 5, 7);
        x.ship(0);
        x.look(1, 0, 9, 9, 5, 0);
        put(x, "[0,1;]");
        due("1 is not known on day 6", x.check(0, 6, 5), 0);
        due("fault", x.fault(), 3);
        unread(x, "known 120", 0, 120);
        unread(x, "known -1", 0, -1);
        unread(x, "ship 2", 2, 0);
        unread(x, "ship -1", -1, 0);
        put(x, "[0,1;]");
        due("1 is known on day 7", x.check(0, 7, 5), 1);
        put(x, "[0,2;]");
        due("2 is another ship's", x.check(0, 7, 99), 0);
        x.leave(1, 1);
        put(x, "[]");
        due("1 is left out", x.check(0, 7, 5), 1);
    }

    /** A check that can't be asked empties the tape as any other, but FAULT is that of the latest that read. */
    private static void unread(ShipSkins x, String what, int ship, int known) {
        put(x, "[0,1;]");
        int fault = x.fault();
        due(what, x.check(ship, known, 5), -1);
        due(what + ": the tape is empty", x.count(5), 0);
        due(what + ": it has no byte", x.end(1), -1);
        due(what + ": the next bytes are its first", x.feed(0, 0, 0, 0, 0), 20);
        due(what + ": the fault stays", x.fault(), fault);
        x.end(0);
    }

    private static void fault() {
        ShipSkins x = path(1, 1, 1, 1);
        due("ahead of any", x.fault(), -1);
        checked(x, "[0,1;] 12", 9, 7);
        due("it stays", x.fault(), 7);
        checked(x, "[]", 9, -1);
    }

    private static void miss() {
        ShipSkins x = resting();
        due("no logs", x.miss(0, 0), 0);
        due("the lowest", x.curve(119), 0);
        x.look(0, 10, 100, 100, 3, 0);
        x.look(0, 10, 120, 130, 1, 5);
        due("one that can be met", x.miss(0, 4), 0);
        due("20 times 1", x.miss(0, 5), 20);
        due("on day 10", x.curve(10), 100);
        due("the lowest ahead", x.curve(5), 50);
        due("the lowest on day 0", x.curve(0), 0);
        due("the lowest behind", x.curve(119), 100);
        x.look(0, 10, 120, 130, 1, 6);
        x.look(0, 10, 120, 130, 1, 6);
        due("alike at 100 to 120: the lowest", x.miss(0, 6), 60);
        due("on day 10", x.curve(10), 100);
        x.look(0, 10, 120, 120, 1, 7);
        due("worth more than 100 is", x.miss(0, 7), 60);
        due("on day 10", x.curve(10), 120);
        x.leave(0, 1);
        due("left out", x.miss(0, 7), 0);
        due("known 120", x.miss(0, 120), -1);
        due("ship 1", x.miss(1, 0), -1);
        ShipSkins y = sailing();
        y.look(0, 10, 0, 0, 2, 0);
        due("5 a day for ten days", y.miss(0, 0), 100);
        due("on day 10", y.curve(10), 50);
        due("on day 119", y.curve(119), 595);
        y.table(1, 1, 9, 9);
        due("no curve", y.miss(0, 0), -1);
        due("the latest stays", y.curve(10), 50);
        ShipSkins z = resting();
        z.cleaned(0, 20, 30);
        z.look(0, 19, 1000, 1000, 1, 0);
        z.look(0, 20, 50, 60, 2, 0);
        due("cleaned to 30 at most", z.miss(0, 0), 40);
        due("ahead of it", z.curve(19), 1000);
        due("as near as can be", z.curve(20), 30);
        due("first as rows", z.curve(0), 810);
        ShipSkins last = resting();
        last.cleaned(0, 119, 30);
        last.look(0, 119, 50, 60, 2, 0);
        due("cleaned on the last day", last.miss(0, 0), 40);
        due("as near as can be", last.curve(119), 30);
        ShipSkins first = resting();
        first.cleaned(0, 0, 30);
        first.look(0, 0, 50, 60, 2, 0);
        due("cleaned on the first day", first.miss(0, 0), 40);
        due("as near as can be", first.curve(0), 30);
    }

    private static void curve() {
        ShipSkins x = resting();
        due("ahead of any", x.curve(0), -1);
        x.look(0, 3, 20, 20, 1, 0);
        x.miss(0, 0);
        int[] want = {0, 0, 10, 20, 20};
        for (int d = 0; d < want.length; d++) due("curve(" + d + ")", x.curve(d), want[d]);
        due("curve(119)", x.curve(119), 20);
        due("curve(120)", x.curve(120), -1);
        due("curve(-1)", x.curve(-1), -1);
        x.leave(0, 1);
        due("it is kept", x.curve(119), 20);
    }

    private static void hidden() {
        ShipSkins x = resting();
        due("no logs", x.hidden(0, 0, 0), 0);
        due("none", x.hid(0), -1);
        x.look(0, 10, 500, 500, 1, 0);
        x.look(0, 20, 0, 0, 1, 0);
        x.look(0, 30, 500, 500, 1, 0);
        x.look(0, 40, 0, 0, 1, 0);
        x.look(0, 50, 500, 500, 1, 0);
        due("without: two are missed by 500", x.miss(0, 0), 1000);
        due("rising by 10 a day: one, and all behind it missed by 800", x.hidden(0, 0, 0), 800);
        due("the first", x.hid(0), 11);
        due("no second, which would be alike", x.hid(1), -1);
        x.table(0, 0, 0, 100);
        due("rising by 100 a day: two", x.hidden(0, 0, 499), 998);
        due("the first of two", x.hid(0), 11);
        due("the second of two", x.hid(1), 31);
        due("none, one and two are alike: the fewest", x.hidden(0, 0, 500), 1000);
        due("none then", x.hid(0), -1);
        due("two for nothing", x.hidden(0, 0, 0), 0);
        due("price 1000", x.hidden(0, 0, 1000), 1000);
        due("none then", x.hid(0), -1);
        due("price -1", x.hidden(0, 0, -1), -1);
        due("price 100001", x.hidden(0, 0, 100001), -1);
        due("price 100000", x.hidden(0, 0, 100000), 1000);
        due("known 120", x.hidden(0, 120, 0), -1);
        due("ship 1", x.hidden(1, 0, 0), -1);
        ShipSkins y = resting();
        y.look(0, 10, 100, 100, 10, 0);
        y.look(0, 12, 0, 0, 10, 0);
        due("one of two days: the first", y.hidden(0, 0, 999), 999);
        due("it", y.hid(0), 11);
        due("alike with none: the fewest", y.hidden(0, 0, 1000), 1000);
        due("none", y.hid(0), -1);
        y.cleaned(0, 11, 1000);
        due("told on 11, so 0 can be met", y.hidden(0, 0, 999), 0);
        y.look(0, 11, 300, 300, 1, 0);
        due("only on a day on which it was not told so", y.hidden(0, 0, 5), 5);
        due("it", y.hid(0), 12);
        ShipSkins z = sailing();
        z.table(1, 1, 9, 9);
        due("no curve, but by one", z.miss(0, 0), -1);
        due("no curve, but by one", z.hidden(0, 0, 7), 7);
        due("the first: the rest of days must not be above 111", z.hid(0), 8);
        z.table(1, 1, 20, 20);
        due("no curve, but by two", z.hidden(0, 0, 7), 14);
        due("the first", z.hid(0), 18);
        due("the second", z.hid(1), 69);
        z.table(1, 1, 100, 100);
        due("no curve by any", z.hidden(0, 0, 7), -1);
        due("the latest stays", z.hid(0), 18);
        hiddenAtEdges();
    }

    private static void hiddenAtEdges() {
        ShipSkins first = resting();
        first.look(0, 0, 500, 500, 10, 0);
        first.look(0, 1, 0, 0, 10, 0);
        first.look(0, 50, 400, 400, 10, 5);
        first.look(0, 51, 0, 0, 10, 5);
        due("on day 1", first.hidden(0, 0, 1), 1);
        due("on day 1", first.hid(0), 1);
        due("on day 1 and another", first.hidden(0, 5, 1), 2);
        due("on day 1 and another", first.hid(0), 1);
        due("on day 1 and another", first.hid(1), 51);
        ShipSkins last = resting();
        last.table(0, 0, 5, 10);
        last.look(0, 119, 0, 0, 100, 0);
        due("on day 119", last.hidden(0, 0, 1), 1);
        due("on day 119", last.hid(0), 119);
        last.look(0, 118, 0, 0, 100, 0);
        last.look(0, 117, 590, 590, 100, 0);
        due("on days 118 and 119", last.hidden(0, 0, 1), 2);
        due("on days 118 and 119", last.hid(0), 118);
        due("on days 118 and 119", last.hid(1), 119);
        ShipSkins told = resting();
        told.cleaned(0, 0, 100);
        told.look(0, 0, 150, 200, 1, 0);
        told.look(0, 1, 0, 0, 50, 0);
        due("day 0 is missed by 50", told.hidden(0, 0, 1), 51);
        due("on day 1", told.hid(0), 1);
        ShipSkins zero = resting();
        zero.look(0, 0, 0, 0, 7, 0);
        zero.look(0, 5, 50, 50, 7, 0);
        zero.look(0, 6, 0, 0, 100, 0);
        due("all are met", zero.hidden(0, 0, 1), 1);
        zero.cleaned(0, 20, 100);
        zero.look(0, 20, 0, 0, 5, 0);
        zero.look(0, 29, 90, 90, 5, 0);
        zero.look(0, 30, 0, 0, 100, 0);
        due("all are met", zero.hidden(0, 0, 1), 2);
        due("the first", zero.hid(0), 6);
        due("the second", zero.hid(1), 30);
    }

    private static void hid() {
        ShipSkins x = resting();
        due("ahead of any", x.hid(0), -1);
        x.look(0, 10, 100, 100, 10, 0);
        x.look(0, 12, 0, 0, 10, 0);
        x.hidden(0, 0, 1);
        due("hid(-1)", x.hid(-1), -1);
        due("hid(0)", x.hid(0), 11);
        due("hid(1)", x.hid(1), -1);
        due("hid(2)", x.hid(2), -1);
        due("no curve is kept", x.curve(0), -1);
    }

    private static void call() {
        ShipSkins x = new ShipSkins();
        due("call(-1)", x.call(-1), -1);
        due("call(120)", x.call(120), -1);
        int[] days = {119, 0, 50, 10, 20, 30, 40};
        for (int i = 0; i < 7; i++) due("call " + i, x.call(days[i]), i + 1);
        due("an eighth", x.call(60), -5);
        due("twice without room", x.call(119), -4);
        due("call(120) without room", x.call(120), -1);
        due("count(4)", x.count(4), 7);
    }

    private static void clear() {
        ShipSkins x = new ShipSkins();
        due("of none", x.clear(), 0);
        x.call(5);
        x.call(6);
        due("of two", x.clear(), 2);
        due("none are left", x.count(4), 0);
        due("one of them again", x.call(6), 1);
        due("of one", x.clear(), 1);
    }

    private static void plan() {
        ShipSkins x = sailing();
        x.look(0, 0, 100, 100, 1, 0);
        due("no calls", x.plan(0, 0, 9, 0), 0);
        x.terms(1, 201);
        x.call(5);
        x.call(2);
        x.call(0);
        due("day 0 alone: 360 and 201, days 0 and 5: 160 and 402", x.plan(0, 0, 9, 0), 4);
        x.terms(1, 200);
        due("both are alike: the fewest", x.plan(0, 0, 9, 0), 4);
        x.terms(1, 199);
        due("days 0 and 5", x.plan(0, 0, 9, 0), 5);
        x.terms(1, 0);
        due("all", x.plan(0, 0, 9, 0), 7);
        due("only day 5 is in them", x.plan(0, 3, 9, 0), 1);
        x.terms(0, 0);
        due("all are alike: the fewest", x.plan(0, 0, 9, 0), 0);
        x.terms(1, 100000);
        due("too dear", x.plan(0, 0, 9, 0), 0);
        due("one day", x.plan(0, 9, 9, 0), 0);
        due("to ahead of from", x.plan(0, 9, 8, 0), -1);
        due("from -1", x.plan(0, -1, 8, 0), -1);
        due("to 120", x.plan(0, 0, 120, 0), -1);
        due("known 120", x.plan(0, 0, 9, 120), -1);
        due("ship 1", x.plan(1, 0, 9, 0), -1);
        x.look(0, 0, 0, 0, 1, 1);
        due("no span", x.plan(0, 0, 9, 1), -1);
        ShipSkins y = sailing();
        y.table(1, 1, -100, 0);
        y.leg(0, 1, 0, 0, 0, 0);
        y.leg(0, 4, 0, 10, 0, 0);
        y.leg(0, 5, 0, 0, 0, 0);
        y.table(0, 0, 0, 0);
        y.call(3);
        y.call(2);
        due("days 2 and 3 are alike: the lowest bits", y.plan(0, 1, 9, 0), 1);
    }

    private static void judge() {
        ShipSkins x = sailing();
        x.look(0, 0, 100, 100, 1, 0);
        due("no calls", x.judge(0, 0, 0, 2, 0), 100 + 108 + 116);
        due("a bit without a call", x.judge(0, 1, 0, 2, 0), -1);
        due("bits -1", x.judge(0, -1, 0, 2, 0), -1);
        x.call(1);
        x.call(50);
        due("a call", x.judge(0, 1, 0, 2, 0), 100 + 0 + 8 + 100);
        due("a call that is not in them", x.judge(0, 2, 0, 2, 0), 324);
        due("both", x.judge(0, 3, 0, 2, 0), 208);
        due("bits 4", x.judge(0, 4, 0, 2, 0), -1);
        due("the first day, too", x.judge(0, 1, 1, 2, 0), 8 + 100);
        due("the first day is at its greatest", x.judge(0, 0, 2, 2, 0), 116);
        x.cleaned(0, 3, 40);
        due("cleaned: what was left", x.judge(0, 0, 2, 4, 0), 116 + 40 + 48);
        due("from a day on which it was cleaned", x.judge(0, 0, 3, 4, 0), 40 + 48);
        x.look(0, 3, 10, 20, 1, 1);
        due("the greatest of its span", x.judge(0, 0, 3, 4, 1), 20 + 28);
        due("behind the first day it is what was left", x.judge(0, 0, 2, 4, 1), 116 + 40 + 48);
        x.call(3);
        due("a call on a day on which it was cleaned", x.judge(0, 4, 2, 4, 1), 116 + 0 + 8 + 100);
        due("rising from what was left", x.judge(0, 0, 118, 119, 0), 960 + 968);
        x.table(1, 1, -100, 100);
        due("1000 at most", x.judge(0, 0, 2, 13, 0), 300 + 40 + 140 + 240 + 340 + 440 + 540 + 640 + 740 + 840 + 940 + 1000);
        x.leg(0, 4, 0, 0, 0, 0);
        due("at rest it costs nothing", x.judge(0, 0, 3, 6, 0), 40);
        x.table(1, 1, -100, -30);
        due("falling by 30 a day at worst", x.judge(0, 0, 0, 2, 0), 100 + 70 + 40);
        due("0 at least", x.judge(0, 1, 0, 2, 0), 100 + 0 + 0 + 100);
        due("to ahead of from", x.judge(0, 0, 4, 3, 0), -1);
        due("to 120", x.judge(0, 0, 4, 120, 0), -1);
        due("from -1", x.judge(0, 0, -1, 3, 0), -1);
        due("known 120", x.judge(0, 0, 3, 4, 120), -1);
        due("ship 1", x.judge(1, 0, 3, 4, 0), -1);
        x.look(0, 3, 900, 900, 1, 2);
        due("no span", x.judge(0, 0, 3, 4, 2), -1);
        ShipSkins y = new ShipSkins();
        y.ship(1000);
        y.leg(0, 0, 0, 30, 20, 100);
        y.table(1, 3, 0, 100);
        y.terms(1000, 100000);
        due("the most", y.judge(0, 0, 0, 119, 0), 120L * 9000 * 1000);
    }

    private static void seal() {
        ShipSkins x = resting();
        due("of none", x.seal(), 0);
        x.look(0, 0, 10, 20, 1, 0);
        due("there are more than then", x.found(), -2);
        due("of one", x.seal(), 1);
        due("as it was", x.found(), -1);
        x.alter(0, 1);
        due("altered", x.found(), 0);
        due("anew", x.seal(), 1);
        due("as it was", x.found(), -1);
    }

    private static void alter() {
        ShipSkins x = new ShipSkins();
        x.ship(0);
        x.leg(0, 0, 0, 10, 0, 0);
        x.log(0, 0, 100, 0, 1, 0);
        x.look(0, 0, 200, 210, 1, 0);
        due("alter(0, 0)", x.alter(0, 0), -1);
        due("alter(0, 256)", x.alter(0, 256), -1);
        due("alter(0, -1)", x.alter(0, -1), -1);
        due("alter(2, 1)", x.alter(2, 1), -2);
        due("alter(-1, 1)", x.alter(-1, 1), -2);
        due("alter(2, 0)", x.alter(2, 0), -1);
        due("status", x.status(), -1);
        due("alter(0, 255)", x.alter(0, 255), 155);
        due("status", x.status(), 0);
        due("fuel is what it is read by", x.of(0, 2), 155);
        due("alter(0, 1)", x.alter(0, 1), 154);
        due("alter(1, 2)", x.alter(1, 2), 202);
        due("a look's least", x.of(1, 2), 202);
        due("a look's greatest", x.of(1, 3), 210);
        due("alter(1, 128)", x.alter(1, 128), 74);
        due("a look's least", x.of(1, 2), 74);
        x.log(0, 0, 100000, 0, 1, 0);
        due("more than could be told", x.alter(2, 0x5F), 100095);
    }

    private static void found() {
        ShipSkins x = resting();
        due("nothing is sealed", x.found(), -3);
        for (int i = 0; i < 4; i++) x.look(0, 0, 10 * i, 900, 1, 0);
        due("nothing is sealed", x.found(), -3);
        x.seal();
        for (int i = 0; i < 4; i++) {
            x.alter(i, 7);
            due("log " + i, x.found(), i);
            x.alter(i, 7);
            due("put right", x.found(), -1);
        }
        x.alter(0, 1);
        x.alter(3, 1);
        due("logs 0 and 3 are 1 more each: the sums are off by 2 and 5", x.found(), -2);
        x.alter(0, 1);
        x.alter(3, 1);
        x.alter(0, 2);
        x.alter(1, 2);
        due("log 0 is 2 more and log 1 is 2 less: the first sum is as it was", x.found(), -2);
        x.alter(0, 2);
        x.alter(1, 2);
        x.alter(0, 1);
        x.alter(2, 1);
        due("logs 0 and 2 are 1 more each, as if log 1 were 2 more", x.found(), 1);
        x.alter(2, 1);
        x.alter(1, 4);
        due("the sums are off by 5 and 9", x.found(), -2);
        x.alter(0, 1);
        x.alter(1, 4);
        x.alter(0, 1);
        x.alter(3, 4);
        due("the sums are off by 3 and 15, as if there were a fifth log", x.found(), -2);
        x.alter(0, 1);
        x.alter(3, 4);
        x.leave(0, 1);
        due("leaving out alters nothing", x.found(), -1);
        x.look(0, 0, 0, 0, 1, 0);
        due("there are more, though sums are as they were", x.found(), -2);
        ShipSkins full = resting();
        for (int i = 0; i < 24; i++) full.look(0, 0, 1000, 1000, 1, 0);
        due("24 are sealed", full.seal(), 24);
        full.alter(23, 255);
        due("the last of 24", full.found(), 23);
    }

    private static void image() {
        ShipSkins x = resting();
        due("image(-1)", x.image(-1), -1);
        due("image(2)", x.image(2), -1);
        due("image(0)", x.image(0), 0);
        x.ship(0);
        due("image(1)", x.image(1), 0);
        x.ship(0);
        due("back(0)", x.back(0), 0);
        due("count(0)", x.count(0), 1);
        due("back(1)", x.back(1), 0);
        due("count(0)", x.count(0), 2);
        due("image(0) anew", x.image(0), 0);
        x.back(1);
        x.back(0);
        due("count(0)", x.count(0), 2);
    }

    private static void back() {
        ShipSkins x = sailing();
        due("back(-1)", x.back(-1), -1);
        due("back(2)", x.back(2), -1);
        due("back(0)", x.back(0), -2);
        x.cleaned(0, 100, 50);
        x.terms(3, 30);
        x.look(0, 0, 100, 110, 1, 0);
        x.log(0, 1, 105, 0, 1, 4);
        x.seal();
        x.call(1);
        x.right(0, 0);
        x.prove(0, 0);
        x.miss(0, 0);
        x.hidden(0, 0, 0);
        checked(x, "x", 0, 0);
        x.feed(0, 0, 0, 0, 0);
        x.image(1);
        x.ship(7);
        x.leg(0, 0, 1, 0, 0, 0);
        x.leg(1, 0, 0, 10, 0, 0);
        x.cleaned(0, 1, 1);
        x.table(0, 1, 1, 1);
        x.table(1, 1, 1, 1);
        x.terms(4, 40);
        x.alter(0, 1);
        x.leave(1, 1);
        x.look(0, 0, 101, 101, 7, 0);
        x.look(0, 0, 300, 300, 2, 0);
        x.seal();
        x.call(2);
        x.clear();
        x.call(1);
        x.call(2);
        x.right(0, 119);
        x.prove(0, 119);
        x.miss(0, 119);
        x.end(0);
        checked(x, " x", 0, 1);
        x.feed(0, 0, 0, 0, 0);
        x.feed(0, 0, 0, 0, 0);
        int curve = x.curve(0);
        int bytes = x.count(6);
        due("back(1)", x.back(1), 0);
        due("ships", x.count(0), 1);
        due("legs", x.count(1), 1);
        due("cleaned", x.count(2), 1);
        due("logs", x.count(3), 2);
        due("law", x.law(0, 0, 0), 5);
        due("law", x.law(0, 0, 1), 8);
        due("number", x.of(0, 2), 100);
        due("left out", x.of(1, 6), 0);
        due("sealed as then", x.found(), -1);
        due("calls stay", x.count(4), 2);
        due("terms", x.judge(0, 2, 0, 2, 0), 3 * (110 + 118) + 30);
        due("the tape stays", x.count(5), 40);
        due("the fault stays", x.fault(), 1);
        due("the latest proof stays", x.count(6), bytes);
        due("the latest curve stays", x.curve(0), curve);
        due("the latest right stays", x.isRight(1), 0);
        due("of logs that there are", x.isRight(2), -1);
        x.look(0, 0, 101, 101, 7, 0);
        due("the latest right stays", x.isRight(2), 1);
        due("images stay", x.back(1), 0);
        due("logs", x.count(3), 2);
        x.alter(0, 1);
        due("the image is not altered", x.back(1), 0);
        due("number", x.of(0, 2), 100);
        twoPasts();
    }

    /** What one image has, told anew in another way behind the other, must come back. */
    private static void twoPasts() {
        ShipSkins x = new ShipSkins();
        x.image(0);
        x.ship(10);
        x.ship(20);
        x.leg(0, 3, 2, 9, 5, 20);
        x.leg(1, 4, 3, 0, 0, 0);
        x.cleaned(1, 20, 5);
        x.log(0, 3, 10, 6, 7, 8);
        x.look(1, 10, 100, 200, 9, 10);
        x.table(0, 3, 2, 4);
        x.image(1);
        x.back(0);
        due("ships", x.count(0), 0);
        x.ship(30);
        x.ship(40);
        x.leg(1, 5, 4, 7, 1, 1);
        x.leg(0, 1, 1, 8, 0, 0);
        x.cleaned(0, 30, 6);
        x.look(1, 5, 300, 400, 17, 18);
        x.log(0, 5, 20, 3, 19, 20);
        x.leave(0, 1);
        x.leave(1, 1);
        x.back(0);
        x.ship(50);
        x.look(0, 7, 1, 2, 3, 4);
        due("a new log is not left out", x.of(0, 6), 0);
        due("back(1)", x.back(1), 0);
        int[] fuelOfLeg = {8, 2, 2, 0, 12};
        for (int what = 0; what <= 4; what++) due("share " + what, x.share(0, 3, 0, what), fuelOfLeg[what]);
        due("at rest ahead of its leg", x.share(0, 2, 0, 4), 0);
        due("another ship's leg", x.share(1, 5, 0, 4), 0);
        due("law by its sea", x.law(1, 4, 0), 2);
        due("law ahead of it", x.law(1, 3, 0), 0);
        due("cleaned", x.law(1, 19, 0), -1000);
        due("cleaned", x.span(1, 20, 0, 1), 5);
        due("not cleaned", x.law(0, 29, 0), -10);
        int[] log = {0, 3, 0, 5, 7, 8, 0};
        int[] look = {1, 10, 100, 200, 9, 10, 0};
        for (int what = 0; what <= 6; what++) {
            due("log, " + what, x.of(0, what), log[what]);
            due("look, " + what, x.of(1, what), look[what]);
        }
    }

    private static void count() {
        ShipSkins x = path(1, 1, 1, 1);
        x.ship(0);
        for (int i = 0; i < 3; i++) x.leg(0, 5, 0, 0, 0, 0);
        for (int i = 0; i < 5; i++) x.cleaned(0, 50 + i, 0);
        for (int i = 0; i < 6; i++) x.call(i);
        x.feed(0, 0, 0, 0, 0);
        x.end(7);
        x.prove(0, 0);
        int[] want = {2, 3, 5, 4, 6, 7, 11};
        for (int what = 0; what <= 6; what++) due("count(" + what + ")", x.count(what), want[what]);
        due("count(7)", x.count(7), -1);
        due("count(-1)", x.count(-1), -1);
    }

    private static void status() {
        ShipSkins x = new ShipSkins();
        due("table", told(x, x.table(0, 0, 1, 0)), -1);
        due("ship", told(x, x.ship(0)), 0);
        due("ship", told(x, x.ship(-1)), -1);
        due("leg", told(x, x.leg(0, 0, 0, 10, 0, 0)), 0);
        due("leg", told(x, x.leg(1, 0, 0, 0, 0, 0)), -2);
        due("cleaned", told(x, x.cleaned(0, 0, 5)), 0);
        due("cleaned", told(x, x.cleaned(0, 0, 5)), -4);
        due("terms", told(x, x.terms(1, 1)), 0);
        due("terms", told(x, x.terms(-1, 0)), -1);
        due("log", told(x, x.log(0, 0, 0, 0, 1, 0)), 0);
        x.leg(0, 9, 0, 0, 0, 0);
        due("log", told(x, x.log(0, 9, 0, 0, 1, 0)), -3);
        due("look", told(x, x.look(0, 0, 0, 0, 1, 0)), 0);
        due("look", told(x, x.look(0, 0, 1, 0, 1, 0)), -1);
        due("leave", told(x, x.leave(0, 0)), 0);
        due("leave", told(x, x.leave(9, 0)), -2);
        due("call", told(x, x.call(0)), 0);
        due("call", told(x, x.call(0)), -4);
        due("alter", told(x, x.alter(0, 1)), 0);
        due("alter", told(x, x.alter(9, 1)), -2);
        due("image", told(x, x.image(0)), 0);
        due("image", told(x, x.image(9)), -1);
        due("back", told(x, x.back(0)), 0);
        due("back", told(x, x.back(1)), -2);
        askAll(x);
        due("what the other calls leave", x.status(), -2);
        due("table", told(x, x.table(0, 0, 1, 1)), 0);
        x.ship(-1);
        askAll(x);
        due("what the other calls leave", x.status(), -1);
        for (int i = 0; i < 3; i++) x.ship(0);
        due("no room", x.status(), -5);
    }

    private static int told(ShipSkins x, int answer) {
        due("status beside the answer", x.status(), Math.min(answer, 0));
        return x.status();
    }

    private static void askAll(ShipSkins x) {
        x.of(0, 0);
        x.law(0, 0, 0);
        x.share(0, 0, 0, 0);
        x.span(0, 0, 0, 0);
        x.why(0, 0, 0, 0);
        x.lost(0, 0, 0, 0, 0);
        x.widest(0, 0, 0, 0);
        x.quarrels(0, 0, -1);
        x.quarrel(0, 0);
        x.right(0, 0);
        x.isRight(0);
        x.prove(0, 0);
        x.proof(0);
        x.feed(0, 0, 0, 0, 0);
        x.end(0);
        x.check(0, 0, 0);
        x.fault();
        x.miss(0, 0);
        x.curve(0);
        x.hidden(0, 0, 0);
        x.hid(0);
        x.clear();
        x.plan(0, 0, 0, 0);
        x.judge(0, 0, 0, 0, 0);
        x.seal();
        x.found();
        x.count(0);
    }
}
