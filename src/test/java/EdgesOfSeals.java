/** Edges of promises 35 to 41, and of term VI: seals, images, counts, and status. */
final class EdgesOfSeals extends Edges {
    /** So many looks from 100 on, each as told, sealed. */
    private static ShipSkins sealed(int logs) {
        ShipSkins x = resting();
        for (int n = 0; n < logs; n++) x.look(0, 0, 100, 1000, 1, 0);
        due("sealed", x.seal(), logs);
        return x;
    }

    static void p00_aMaskTurnsBitsOver() {
        int[] numbers = {0, 100, 255, 256, 1000};
        for (int number : numbers) {
            for (int mask : new int[] {1, 128, 255}) {
                ShipSkins x = resting();
                x.look(0, 0, number, 1000, 1, 0);
                due("once", x.alter(0, mask), number ^ mask);
                due("twice", x.alter(0, mask), number);
                due("as told", x.of(0, 2), number);
            }
        }
    }

    static void p00_foundNoneIfBothSumsAreAsTheyWere() {
        ShipSkins x = sealed(3);
        due("at once", x.found(), -1);
        x.alter(1, 7);
        x.alter(1, 7);
        due("turned over twice", x.found(), -1);
        x.leave(1, 1);
        due("left out", x.found(), -1);
    }

    static void p00_foundTheFirstAndTheLastLog() {
        for (int logs : new int[] {1, 2, 23, 24}) {
            for (int log : new int[] {0, logs - 1}) {
                for (int mask : new int[] {1, 4, 100, 255}) {
                    ShipSkins x = sealed(logs);
                    x.alter(log, mask);
                    due("log " + log + " of " + logs + " by " + mask, x.found(), log);
                }
            }
        }
    }

    static void p00_foundNoneSuch() {
        ShipSkins x = sealed(24);
        x.alter(0, 1);
        x.alter(1, 1);
        due("off by 2 and 3", x.found(), -2);
        x.alter(0, 1);
        x.alter(0, 4);
        due("off by 1 less 4 and 2 less 4", x.found(), -2);
        ShipSkins y = sealed(2);
        y.alter(0, 1);
        y.alter(1, 4);
        due("one is 1 more, the other 4 less: off by 3 less and 7 less", y.found(), -2);
        ShipSkins z = sealed(2);
        z.alter(0, 4);
        z.alter(1, 8);
        due("off by 4 and 12, as if there were a third", z.found(), -2);
        ShipSkins w = sealed(2);
        w.alter(0, 8);
        w.alter(1, 4);
        due("off by 4 and 0, as if there were one ahead of all", w.found(), -2);
    }

    static void p00_foundNoneSuchIfTheFirstSumIsAsItWas() {
        ShipSkins x = resting();
        x.look(0, 0, 1, 1000, 1, 0);
        x.look(0, 0, 2, 1000, 1, 0);
        x.seal();
        x.alter(0, 3);
        x.alter(1, 3);
        due("1 and 2 are now 2 and 1", x.found(), -2);
    }

    static void p00_foundMoreLogsThanThen() {
        ShipSkins x = sealed(2);
        x.look(0, 0, 0, 0, 1, 0);
        due("one more, of number 0", x.found(), -2);
        x.alter(0, 1);
        due("one more, and one altered", x.found(), -2);
        ShipSkins y = sealed(0);
        due("none", y.found(), -1);
        y.look(0, 0, 0, 0, 1, 0);
        due("one more than none", y.found(), -2);
    }

    static void p00_imagesLeaveWhatTheyDontKeep() {
        ShipSkins x = some();
        x.image(0);
        x.right(1, 119);
        x.prove(1, 119);
        x.miss(1, 119);
        x.hidden(1, 119, 0);
        put(x, "[1,");
        x.check(1, 119, 0);
        put(x, "x");
        x.clear();
        x.call(7);
        due("back", x.back(0), 0);
        due("calls", x.count(4), 1);
        due("bytes of the tape", x.count(5), 1);
        due("bytes of the latest proof", x.count(6), 2);
        due("the latest right", x.isRight(3), 1);
        due("the latest right", x.isRight(0), 0);
        due("the latest curve", x.curve(0), 0);
        due("the latest curve", x.curve(30), 5);
        due("the latest hidden", x.hid(0), -1);
        due("fault", x.fault(), 1);
    }

    static void p35_ofNone() {
        ShipSkins x = new ShipSkins();
        due("without a ship", x.seal(), 0);
        due("it is sealed", x.found(), -1);
    }

    static void p35_ofAll() {
        due("24", sealed(24).seal(), 24);
        due("those left out, too", full().seal(), 24);
    }

    static void p35_anew() {
        ShipSkins x = sealed(2);
        x.alter(0, 1);
        due("altered", x.found(), 0);
        due("anew", x.seal(), 2);
        due("as it was then", x.found(), -1);
        x.alter(0, 1);
        due("as it was told", x.found(), 0);
        x.look(0, 0, 0, 0, 1, 0);
        due("one more", x.found(), -2);
        due("anew", x.seal(), 3);
        due("all three", x.found(), -1);
    }

    static void p35_leavesAllElse() {
        ShipSkins x = full();
        x.alter(23, 1);
        due("as they were sealed", x.seal(), 24);
        x.alter(23, 1);
        same("all else", seen(x), seen(full()));
        ShipSkins y = some();
        y.ship(-1);
        y.seal();
        due("status", y.status(), -1);
    }

    static void p36_maskIs1To255() {
        for (int mask : new int[] {1, 255}) takes("mask " + mask, Edges::some, x -> x.alter(2, mask), 100 ^ mask);
        for (int mask : new int[] {0, 256, -1, Integer.MIN_VALUE, Integer.MAX_VALUE}) {
            refuses("mask " + mask, Edges::some, x -> x.alter(2, mask), -1);
        }
    }

    static void p36_noSuchLog() {
        takes("log 0", Edges::some, x -> x.alter(0, 1), 11);
        takes("log 5", Edges::some, x -> x.alter(5, 1), 1);
        for (int log : new int[] {-1, 6, Integer.MIN_VALUE, Integer.MAX_VALUE}) {
            refuses("log " + log, Edges::some, x -> x.alter(log, 1), -2);
        }
        takes("the last of 24", Edges::full, x -> x.alter(23, 1), 23);
        refuses("a 25th", Edges::full, x -> x.alter(24, 1), -2);
        refuses("of none", ShipSkins::new, x -> x.alter(0, 1), -2);
    }

    static void p36_downTo0() {
        ShipSkins x = resting();
        x.look(0, 0, 255, 300, 1, 0);
        due("255 turned over", x.alter(0, 255), 0);
        due("it is taken", x.status(), 0);
        due("read from 0 on", x.of(0, 2), 0);
    }

    static void p36_aboveWhatCouldBeTold() {
        ShipSkins x = underWay(0, 10, 0, 0);
        x.log(0, 0, 100000, 1000, 1, 0);
        due("fuel", x.alter(0, 0x5F), 100095);
        x.look(0, 0, 1000, 1000, 1, 0);
        due("a look", x.alter(1, 0x17), 1023);
        due("from 1023 to 1000 can't be read", x.of(1, 2), -1);
        due("back again", x.alter(1, 0x17), 1000);
        due("it can be read", x.of(1, 2), 1000);
    }

    static void p36_aLookFromBehindTo() {
        ShipSkins x = resting();
        x.look(0, 0, 4, 5, 1, 0);
        due("5", x.alter(0, 1), 5);
        due("from 5 to 5", x.of(0, 2), 5);
        due("7", x.alter(0, 2), 7);
        due("from 7 to 5", x.of(0, 2), -1);
        due("from 7 to 5", x.of(0, 3), -1);
    }

    static void p36_onlyItsNumber() {
        ShipSkins x = some();
        x.alter(4, 1);
        int[] want = {0, 70, 101, 300, 6, 0, 1};
        for (int what = 0; what < 7; what++) due("what " + what, x.of(4, what), want[what]);
    }

    static void p37_nothingIsSealed() {
        due("of a new object", new ShipSkins().found(), -3);
        ShipSkins x = resting();
        x.look(0, 0, 5, 5, 1, 0);
        x.alter(0, 1);
        due("with a log altered", x.found(), -3);
    }

    static void p37_backAheadOfTheSeal() {
        ShipSkins x = resting();
        x.look(0, 0, 5, 9, 1, 0);
        x.image(0);
        x.seal();
        x.image(1);
        x.alter(0, 2);
        due("altered", x.found(), 0);
        x.back(1);
        due("sealed then", x.found(), -1);
        x.back(0);
        due("nothing is sealed", x.found(), -3);
    }

    static void p37_asksOnly() {
        ShipSkins x = some();
        due("log 3", x.found(), 3);
        due("again", x.found(), 3);
        due("it is not put right", x.of(3, 2), 5);
        x.ship(-1);
        x.found();
        due("status", x.status(), -1);
    }

    static void p38_kIs0To1() {
        tells("k", (x, n) -> x.image(n), 0, 1, 0);
    }

    static void p38_ofANewObject() {
        ShipSkins x = new ShipSkins();
        due("kept", x.image(1), 0);
        x.ship(5);
        due("back", x.back(1), 0);
        due("no ship", x.count(0), 0);
        due("image 0 was not kept", x.back(0), -2);
    }

    static void p38_ofAFullObject() {
        ShipSkins x = full();
        String all = seen(full());
        due("kept", x.image(1), 0);
        x.alter(0, 4);
        x.leave(1, 1);
        x.table(0, 0, 5, 5);
        x.terms(9, 9);
        x.seal();
        x.back(1);
        ShipSkins y = full();
        y.image(1);
        same("all is as it was", seen(x), seen(y));
        due("and told apart from another image", all.equals(seen(some())) ? 1 : 0, 0);
    }

    static void p38_anew() {
        ShipSkins x = resting();
        x.image(0);
        x.ship(5);
        due("anew", x.image(0), 0);
        x.ship(6);
        x.back(0);
        due("as kept last", x.count(0), 2);
    }

    static void p38_eachImageIsItsOwn() {
        ShipSkins x = new ShipSkins();
        x.image(0);
        x.ship(5);
        x.image(1);
        x.ship(6);
        x.back(0);
        due("image 0", x.count(0), 0);
        x.back(1);
        due("image 1", x.count(0), 1);
    }

    static void p39_kIs0To1() {
        tells("k", Edges::full, (x, n) -> x.back(n), 0, 1, 0, -1);
    }

    static void p39_notKept() {
        refuses("image 1", Edges::some, x -> x.back(1), -2);
        refuses("of a new object", ShipSkins::new, x -> x.back(0), -2);
        refuses("of a new object", ShipSkins::new, x -> x.back(1), -2);
    }

    static void p39_imagesStay() {
        ShipSkins x = resting();
        x.image(0);
        for (int n = 0; n < 3; n++) {
            x.ship(5);
            due("a look", x.look(1, 0, 7, 7, 1, 0), 0);
            x.alter(0, 1);
            due("back", x.back(0), 0);
            due("ships", x.count(0), 1);
            due("logs", x.count(3), 0);
        }
        x.image(1);
        x.back(1);
        due("back to the one does not drop the other", x.back(0), 0);
    }

    static void p39_roomComesBack() {
        ShipSkins x = full();
        due("back", x.back(0), 0);
        due("a ship", x.ship(0), 2);
        due("a leg", x.leg(2, 0, 0, 0, 0, 0), 4);
        due("cleaned", x.cleaned(2, 6, 0), 3);
        due("a log", x.look(2, 0, 0, 0, 1, 0), 6);
        due("calls are not kept", x.call(119), -5);
    }

    static void p39_logsThatAreNoMore() {
        ShipSkins x = resting();
        x.image(0);
        x.look(0, 0, 7, 7, 1, 0);
        x.right(0, 0);
        x.leave(0, 1);
        x.back(0);
        due("no such log", x.of(0, 0), -1);
        due("not in the latest right", x.isRight(0), -1);
        due("not to be left out", x.leave(0, 1), -2);
        x.look(0, 0, 8, 8, 1, 0);
        due("a new one is not left out", x.of(0, 6), 0);
        due("a new one is not altered", x.of(0, 2), 8);
    }

    static void p40_whatIs0To6() {
        asks("what", Edges::some, (x, n) -> x.count(n), 0, 6, ends(2, 10));
        int[] some = {2, 3, 2, 6, 2, 6, 10};
        for (int what = 0; what < 7; what++) due("what " + what, some().count(what), some[what]);
    }

    static void p40_ofNoneAndOfAll() {
        int[] most = {3, 60, 40, 24, 7, 400, 10};
        for (int what = 0; what < 7; what++) {
            due("of a new object, what " + what, new ShipSkins().count(what), 0);
            due("of a full one, what " + what, full().count(what), most[what]);
        }
    }

    static void p40_aProofIsNoneWithoutOne() {
        ShipSkins x = resting();
        x.right(0, 0);
        due("without", x.count(6), 0);
        x.prove(1, 0);
        due("a refused one", x.count(6), 0);
        x.prove(0, 0);
        due("the shortest", x.count(6), 2);
    }

    static void p41_zeroAheadOfAny() {
        ShipSkins x = new ShipSkins();
        due("of a new object", x.status(), 0);
        x.span(0, 0, 0, 0);
        x.clear();
        x.end(-1);
        x.right(9, 9);
        due("behind others", x.status(), 0);
    }

    static void p41_ofTheLatestOfThem() {
        Call[] refused = {x -> x.table(2, 0, 0, 0), x -> x.ship(-1), x -> x.leg(9, 0, 0, 0, 0, 0),
            x -> x.cleaned(0, 60, 0), x -> x.terms(-1, 0), x -> x.log(0, 0, 0, 0, 1, 0), x -> x.look(9, 0, 0, 0, 1, 0),
            x -> x.leave(9, 0), x -> x.call(3), x -> x.alter(9, 1), x -> x.image(2), x -> x.back(1)};
        Call[] taken = {x -> x.table(1, 0, 0, 0), x -> x.ship(1), x -> x.leg(0, 0, 0, 0, 0, 0),
            x -> x.cleaned(0, 61, 0), x -> x.terms(1, 0), x -> x.log(0, 10, 0, 0, 1, 0), x -> x.look(0, 0, 0, 0, 1, 0),
            x -> x.leave(0, 0), x -> x.call(4), x -> x.alter(0, 1), x -> x.image(1), x -> x.back(0)};
        int[] by = {-1, -1, -2, -4, -1, -3, -2, -2, -4, -2, -1, -2};
        for (int i = 0; i < refused.length; i++) {
            ShipSkins x = some();
            due("ahead", x.status(), 0);
            due("refused " + i, refused[i].on(x), by[i]);
            due("status", x.status(), by[i]);
            due("asked again", x.status(), by[i]);
            due("taken " + i, taken[i].on(x) < 0 ? 1 : 0, 0);
            due("status", x.status(), 0);
        }
    }

    static void p41_noRoom() {
        Call[] calls = {x -> x.ship(0), x -> x.leg(0, 0, 0, 0, 0, 0), x -> x.cleaned(0, 61, 0),
            x -> x.log(0, 10, 0, 0, 1, 0), x -> x.look(0, 0, 0, 0, 1, 0), x -> x.call(119)};
        for (Call call : calls) {
            ShipSkins x = full();
            call.on(x);
            due("status", x.status(), -5);
        }
    }

    static void p41_theOtherCallsLeaveIt() {
        Call[] others = {x -> x.of(0, 0), x -> x.law(0, 0, 0), x -> x.share(0, 0, 0, 0), x -> x.span(0, 0, 0, 0),
            x -> x.why(0, 0, 0, 0), x -> x.lost(0, 0, 0, 0, 0), x -> x.widest(0, 0, 0, 0), x -> x.quarrels(0, 0, -1),
            x -> x.quarrel(0, 0), x -> x.right(0, 0), x -> x.isRight(0), x -> x.prove(0, 0), x -> x.proof(0),
            x -> x.feed(0, 0, 0, 0, 0), x -> x.end(0), x -> x.check(0, 0, 0), x -> x.fault(), x -> x.miss(0, 0),
            x -> x.curve(0), x -> x.hidden(0, 0, 0), x -> x.hid(0), x -> x.clear(), x -> x.plan(0, 0, 0, 0),
            x -> x.judge(0, 0, 0, 0, 0), x -> x.seal(), x -> x.found(), x -> x.count(0), x -> x.status()};
        for (int i = 0; i < others.length; i++) {
            ShipSkins x = some();
            others[i].on(x);
            due("behind one that was taken, call " + i, x.status(), 0);
            x.cleaned(0, 60, 0);
            others[i].on(x);
            due("behind one that was refused, call " + i, x.status(), -4);
        }
    }


    /** All ships, tables, legs and cleanings that there can be, in one of two ways. */
    private static void tellLegs(ShipSkins x, int way) {
        for (int n = 0; n < 3; n++) x.ship(100 * way + 10 * n);
        for (int sea = 0; sea < 6; sea++) x.table(0, sea, -way - sea, 20 * way + sea);
        for (int pace = 0; pace < 4; pace++) x.table(1, pace, -10 * way - pace, way + pace);
        for (int n = 0; n < 60; n++) {
            int speed = n % 3 == 1 ? (n + way) % 30 + 1 : 0;
            x.leg(legShip(n, way), legDay(n, way), (n / 2 + way) % 6, speed, n * way % 21, (n + 50 * way) % 101);
        }
        for (int n = 0; n < 40; n++) due("cleaned", x.cleaned((n + way) % 3, cleanDay(n, way), 10 * n + way), n + 1);
    }

    private static int legShip(int n, int way) {
        return (n + way) % 3;
    }

    private static int legDay(int n, int way) {
        return way == 1 ? n + 30 : 110 - n;
    }

    private static int cleanDay(int n, int way) {
        return way == 1 ? 3 * n : 119 - 3 * n;
    }

    private static String seenLegs(ShipSkins x, int way) {
        StringBuilder all = new StringBuilder();
        for (int n = 0; n < 60; n++) {
            int ship = legShip(n, way);
            int day = legDay(n, way);
            all.append(x.share(ship, day, 100, 4)).append(' ').append(x.law(ship, day, 0)).append(' ');
            all.append(x.law(ship, day, 1)).append(' ');
        }
        for (int n = 0; n < 40; n++) all.append(x.span((n + way) % 3, cleanDay(n, way), 0, 1)).append(' ');
        return all.toString();
    }

    static void p39_allShipsTablesLegsAndCleaningsAreAsThen() {
        for (int way = 1; way <= 2; way++) {
            ShipSkins x = new ShipSkins();
            x.image(0);
            tellLegs(x, way);
            x.image(1);
            x.back(0);
            tellLegs(x, 3 - way);
            due("back", x.back(1), 0);
            ShipSkins y = new ShipSkins();
            tellLegs(y, way);
            same("all is as then", seenLegs(x, way), seenLegs(y, way));
        }
    }

    /** All logs that there can be, in one of two ways. */
    private static void tellLogs(ShipSkins x, int way) {
        for (int n = 0; n < 3; n++) {
            x.ship(n);
            x.leg(n, 0, 0, 10, 0, 0);
        }
        x.terms(way, 10 * way);
        for (int n = 0; n < 24; n++) {
            int ship = (n + way) % 3;
            int day = (5 * n + way) % 120;
            int worth = 1 + n * way;
            int known = (3 * n + way) % 120;
            int number = 10 * n + 100 * way;
            due("its number", (n + way) % 2 == 0 ? x.log(ship, day, number, n + way, worth, known)
                : x.look(ship, day, number, 600 + 10 * n + way, worth, known), n);
            x.leave(n, (n / 2 + way) % 2);
        }
        x.seal();
        x.alter(4 * way, 8 * way);
    }

    private static String seenLogs(ShipSkins x) {
        StringBuilder all = new StringBuilder();
        for (int n = 0; n < 24; n++) {
            for (int what = 0; what < 7; what++) all.append(x.of(n, what)).append(' ');
        }
        all.append("found ").append(x.found()).append(" terms ").append(x.judge(0, 1, 0, 5, 0));
        return all.toString();
    }

    static void p39_allLogsTermsAndTheSealAreAsThen() {
        for (int way = 1; way <= 2; way++) {
            ShipSkins x = new ShipSkins();
            x.call(2);
            x.image(0);
            tellLogs(x, way);
            x.image(1);
            x.back(0);
            tellLogs(x, 3 - way);
            due("back", x.back(1), 0);
            ShipSkins y = new ShipSkins();
            y.call(2);
            tellLogs(y, way);
            same("all is as then", seenLogs(x), seenLogs(y));
        }
    }

    static void p00_foundByFuelAsMuchAsCanBe() {
        for (int log = 0; log < 2; log++) {
            ShipSkins x = underWay(0, 10, 0, 0);
            x.log(0, 0, 100000, 0, 1, 0);
            x.log(0, 0, 0, 0, 1, 0);
            x.seal();
            x.alter(log, 255);
            due("log " + log, x.found(), log);
        }
    }

    static void p00_foundWhatSetsBothRightThoughItWasNotAltered() {
        for (int number : new int[] {0, 1000}) {
            ShipSkins x = resting();
            int other = number == 0 ? 0 : 4;
            x.look(0, 0, other, 1000, 1, 0);
            x.look(0, 0, number, 1000, 1, 0);
            x.look(0, 0, other, 1000, 1, 0);
            x.seal();
            x.alter(0, 4);
            x.alter(2, 4);
            due("off by 8 and 16, as log 1 would be", x.found(), 1);
        }
    }
}
