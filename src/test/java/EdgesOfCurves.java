/** Edges of promises 27 to 34, and of term V: the curve that misses the least, hidden days, and calls. */
final class EdgesOfCurves extends Edges {
    /** Ship 0's looks of day 0 are 3 apart as known on day 119, ship 1's of day 5 are 2 apart. */
    private static ShipSkins missing() {
        ShipSkins x = resting();
        x.ship(0);
        x.look(0, 0, 100, 100, 1, 0);
        x.look(0, 0, 103, 103, 2, 119);
        x.look(1, 5, 7, 7, 4, 0);
        x.look(1, 5, 9, 9, 1, 0);
        return x;
    }

    /** As some(), but for ship 0 there is no curve, whatever two days it was cleaned on. */
    private static ShipSkins stuck() {
        ShipSkins x = some();
        x.table(0, 1, 100, 100);
        return x;
    }

    /** It was 100 on day 10 and 0 on day 12, so without a cleaning 1000 is missed. */
    private static ShipSkins dropped() {
        ShipSkins x = resting();
        x.look(0, 10, 100, 100, 10, 0);
        x.look(0, 12, 0, 0, 10, 0);
        return x;
    }

    /** It was 500 and 0 on the next day so many times; it rises by 100 a day at most. */
    private static ShipSkins drops(int times) {
        ShipSkins x = resting();
        x.table(0, 0, 0, 100);
        for (int n = 1; n <= times; n++) {
            x.look(0, 10 * n, 500, 500, 1, 0);
            x.look(0, 10 * n + 1, 0, 0, 1, 0);
        }
        return x;
    }

    /** Day 0 is 100, it rises by 5 to 8 a day, and there are calls on these days. */
    private static ShipSkins calling(int... days) {
        ShipSkins x = sailing();
        x.look(0, 0, 100, 100, 1, 0);
        for (int day : days) x.call(day);
        return x;
    }

    /** Calls on the first and the last day, each worth its fee. */
    private static ShipSkins callsAtTheEnds() {
        ShipSkins x = calling(0, 119);
        x.terms(1, 50);
        return x;
    }

    /** Day 0 is 405 at most as known on day 0, and 100 as known on day 119; a call costs 200. */
    private static ShipSkins knownLate() {
        ShipSkins x = sailing();
        x.look(0, 0, 100, 100, 1, 119);
        x.call(0);
        x.terms(1, 200);
        return x;
    }

    /** As known from day 50 on there is no curve. */
    private static ShipSkins boundless() {
        ShipSkins x = calling(0);
        x.look(0, 0, 200, 200, 1, 50);
        return x;
    }

    private static void hides(String what, ShipSkins x, int price, int cost, int... days) {
        due(what, x.hidden(0, 119, price), cost);
        for (int i = 0; i < 3; i++) due(what + ", day " + i, x.hid(i), i < days.length ? days[i] : -1);
    }

    static void p00_missIsHowFarFromWhatItIsReadAs() {
        int[] zs = {0, 9, 10, 20, 21, 1000};
        int[] misses = {70, 7, 0, 0, 7, 6860};
        for (int i = 0; i < zs.length; i++) {
            ShipSkins x = resting();
            x.look(0, 0, 10, 20, 7, 0);
            x.look(0, 0, zs[i], zs[i], 100, 0);
            due("Z " + zs[i], x.miss(0, 0), misses[i]);
            due("Z " + zs[i], x.curve(0), zs[i]);
        }
    }

    static void p00_ofAlikeCurvesTheFirstAsRows() {
        ShipSkins x = resting();
        x.look(0, 0, 10, 10, 1, 0);
        x.look(0, 0, 20, 20, 1, 0);
        due("10 to 20 are alike", x.miss(0, 0), 10);
        due("the lower", x.curve(0), 10);
        due("it stays there", x.curve(119), 10);
        ShipSkins y = resting();
        y.look(0, 119, 1000, 1000, 1, 0);
        y.miss(0, 0);
        due("as low as it can begin", y.curve(0), 0);
        due("as low as it can go on", y.curve(19), 0);
        due("as late as it can rise", y.curve(20), 10);
    }

    static void p00_hiddenDaysAre1To119() {
        ShipSkins first = resting();
        first.look(0, 0, 500, 500, 10, 0);
        first.look(0, 1, 0, 0, 10, 0);
        hides("day 1", first, 1, 1, 1);
        ShipSkins last = resting();
        last.look(0, 118, 500, 500, 10, 0);
        last.look(0, 119, 0, 0, 10, 0);
        hides("day 119", last, 1, 1, 119);
        ShipSkins never = resting();
        never.look(0, 0, 500, 500, 1, 0);
        never.look(0, 0, 0, 0, 2, 0);
        hides("none is of use on day 0", never, 0, 500);
    }

    static void p00_twoHiddenDaysAtMost() {
        hides("none", drops(0), 0, 0);
        hides("one", drops(1), 0, 0, 11);
        hides("two", drops(2), 0, 0, 11, 21);
        hides("no third", drops(3), 0, 500, 11, 21);
    }

    static void p00_hiddenOnlyOnDaysNotToldSo() {
        ShipSkins x = dropped();
        x.look(0, 12, 50, 50, 1, 0);
        x.cleaned(0, 11, 1000);
        hides("told on day 11: 12 is missed by 50", x, 0, 50);
        x.look(0, 11, 300, 300, 1, 0);
        hides("not on day 11 again, but on 12", x, 0, 50, 12);
        x.cleaned(0, 12, 1000);
        hides("told on both", x, 0, 50);
    }

    static void p00_ofAlikeHiddenTheFewestThenTheFirst() {
        hides("none and one are alike", dropped(), 1000, 1000);
        hides("days 11 and 12 are alike", dropped(), 999, 999, 11);
        hides("one and two are alike", dropped(), 0, 0, 11);
        hides("none, one and two are alike", drops(2), 500, 1000);
        hides("11 or 21 with another of them are alike", drops(3), 499, 1498, 11, 21);
    }

    static void p00_sevenCallsAtMost() {
        ShipSkins x = new ShipSkins();
        for (int n = 1; n <= 7; n++) due("call " + n, x.call(n), n);
        due("an eighth", x.call(8), -5);
        due("how many", x.count(4), 7);
    }

    static void p00_worstIs0AtLeast() {
        ShipSkins x = sailing();
        x.table(1, 1, -30, -30);
        x.leg(0, 2, 0, 0, 0, 0);
        x.leg(0, 3, 0, 10, 0, 0);
        x.leg(0, 4, 0, 0, 0, 0);
        x.call(1);
        due("0 on day 1 and 2, 10 on day 3", x.judge(0, 1, 1, 3, 0), 10 + 100);
    }

    static void p00_worstIs1000AtMost() {
        ShipSkins x = sailing();
        x.table(1, 1, 0, 8);
        x.look(0, 0, 984, 984, 1, 0);
        due("984, 992, 1000", x.judge(0, 0, 0, 2, 0), 984 + 992 + 1000);
        due("then no more", x.judge(0, 0, 0, 4, 0), 984 + 992 + 3000);
        ShipSkins y = sailing();
        y.table(1, 1, 0, 8);
        y.look(0, 0, 985, 985, 1, 0);
        due("985, 993, 1000", y.judge(0, 0, 0, 2, 0), 985 + 993 + 1000);
    }

    static void p00_worstOnADayCleanedOnIsWhatWasLeft() {
        for (int left : new int[] {0, 1, 1000}) {
            ShipSkins x = calling();
            x.table(1, 1, 0, 8);
            x.cleaned(0, 1, left);
            due("left " + left, x.judge(0, 0, 0, 1, 0), 100 + left);
            due("and it rises from it", x.judge(0, 0, 1, 2, 0), left + Math.min(1000, left + 8));
        }
    }

    static void p00_aCallIs0OnTheFirstDayToo() {
        due("on the first day", calling(1).judge(0, 1, 1, 2, 0), 0 + 8 + 100);
        due("on the last day", calling(2).judge(0, 1, 1, 2, 0), 108 + 0 + 100);
        due("on the only day", calling(1).judge(0, 1, 1, 1, 0), 100);
        ShipSkins x = calling(1);
        x.cleaned(0, 1, 50);
        due("on a day cleaned on", x.judge(0, 1, 0, 2, 0), 100 + 0 + 8 + 100);
    }

    static void p00_feeForCallsInThemAlone() {
        due("on the day ahead of the first", calling(0).judge(0, 1, 1, 2, 0), 108 + 116);
        due("on the day behind the last", calling(3).judge(0, 1, 1, 2, 0), 108 + 116);
        due("on all four", calling(0, 1, 2, 3).judge(0, 15, 1, 2, 0), 200);
    }

    static void p00_portionsOfEachDayCut() {
        ShipSkins x = underWay(1000, 1, 20, 100);
        x.table(1, 0, 0, 0);
        x.look(0, 0, 199, 199, 1, 0);
        x.terms(1000, 0);
        due("199 through 100 ten times", x.judge(0, 0, 0, 9, 0), 10000);
    }

    static void p27_knownIs0To119() {
        asks("known", EdgesOfCurves::missing, (x, n) -> x.miss(0, n), 0, 119, ends(0, 1 * 3));
    }

    static void p27_noSuchShip() {
        asks("ship", EdgesOfCurves::missing, (x, n) -> x.miss(n, 119), 0, 1, ends(3, 2));
        due("of none", new ShipSkins().miss(0, 0), -1);
    }

    static void p27_theKnownDayItself() {
        due("the day ahead", missing().miss(0, 118), 0);
        due("the day", missing().miss(0, 119), 3);
    }

    static void p27_withoutLogs() {
        ShipSkins x = resting();
        due("nothing is missed", x.miss(0, 0), 0);
        for (int day = 0; day < 120; day++) due("the lowest curve", x.curve(day), 0);
        ShipSkins y = sailing();
        due("nothing is missed", y.miss(0, 0), 0);
        due("the lowest curve", y.curve(119), 5 * 119);
    }

    static void p27_asMuchAsCanBe() {
        ShipSkins x = resting();
        x.cleaned(0, 0, 0);
        for (int n = 0; n < 24; n++) x.look(0, 0, 1000, 1000, 100, 0);
        due("24 logs are missed by 1000", x.miss(0, 0), 2400000);
        due("by 0", x.curve(0), 0);
    }

    static void p27_noneWithoutACurveAndTheLatestStays() {
        barren("no curve", EdgesOfCurves::stuck, x -> x.miss(0, 119), -1);
        ShipSkins x = resting();
        x.table(0, 0, 9, 9);
        due("ahead of any", x.miss(0, 0), -1);
        due("there is none", x.curve(0), -1);
        x.table(0, 0, 8, 8);
        due("there is one", x.miss(0, 0), 0);
        x.table(0, 0, -9, -9);
        due("there is none", x.miss(0, 0), -1);
        due("the latest", x.curve(119), 952);
    }

    static void p28_dayIs0To119() {
        asks("day", Edges::some, (x, n) -> x.curve(n), 0, 119, ends(30, 118));
    }

    static void p28_noneAheadOfAny() {
        ShipSkins x = resting();
        due("ahead of any", x.curve(0), -1);
        x.hidden(0, 0, 0);
        due("hidden() keeps none", x.curve(0), -1);
        x.miss(1, 0);
        due("a refused one keeps none", x.curve(0), -1);
    }

    static void p28_theLatestAlone() {
        ShipSkins x = missing();
        x.miss(1, 0);
        due("of the one ship", x.curve(5), 7);
        x.miss(0, 119);
        due("of the other ship", x.curve(5), 103);
        x.leave(0, 1);
        x.leave(1, 1);
        x.hidden(1, 0, 0);
        due("it stays as it was", x.curve(5), 103);
    }

    static void p29_priceIs0To100000() {
        asks("price", EdgesOfCurves::dropped, (x, n) -> x.hidden(0, 0, n), 0, 100000, ends(0, 1000));
    }

    static void p29_knownIs0To119() {
        asks("known", EdgesOfCurves::missing, (x, n) -> x.hidden(0, n, 5), 0, 119, ends(0, 3));
    }

    static void p29_noSuchShip() {
        asks("ship", EdgesOfCurves::missing, (x, n) -> x.hidden(n, 119, 5), 0, 1, ends(3, 2));
        due("of none", new ShipSkins().hidden(0, 0, 0), -1);
    }

    static void p29_missAndPricesTogether() {
        hides("one", drops(1), 7, 7, 11);
        hides("two", drops(2), 7, 14, 11, 21);
        hides("two, and a miss", drops(3), 7, 514, 11, 21);
        hides("just worth it", drops(1), 499, 499, 11);
        hides("just not worth it", drops(1), 500, 500);
        hides("not worth it", drops(1), 501, 500);
    }

    static void p29_thePriceAsHighAsCanBe() {
        ShipSkins x = sailing();
        x.table(1, 1, 20, 20);
        hides("no curve but by two", x, 100000, 200000, 18, 69);
        hides("for nothing", x, 0, 0, 18, 69);
    }

    static void p29_noneWithoutACurveByAnyAndTheLatestStays() {
        barren("no curve by any", EdgesOfCurves::stuck, x -> x.hidden(0, 119, 1), -1);
        ShipSkins x = sailing();
        x.table(1, 1, 27, 27);
        due("three would be needed, ahead of any", x.hidden(0, 0, 0), -1);
        due("there is none", x.hid(0), -1);
        x.table(1, 1, 25, 25);
        hides("41 days each at most, as 25 times 40 is 1000", x, 0, 0, 38, 79);
        x.table(1, 1, 26, 26);
        due("39 days each at most, as 26 times 39 is 1014", x.hidden(0, 0, 0), -1);
        due("the latest", x.hid(1), 79);
    }

    static void p29_withoutLogs() {
        hides("no log", resting(), 0, 0);
        hides("no log, at a price", resting(), 100000, 0);
    }

    static void p29_asMuchAsCanBe() {
        ShipSkins x = resting();
        x.cleaned(0, 0, 0);
        for (int n = 0; n < 24; n++) x.look(0, 0, 1000, 1000, 100, 0);
        hides("24 logs are missed by 1000", x, 100000, 2400000);
    }

    static void p30_indexIs0ToTheLast() {
        asks("i of one", Edges::some, (x, n) -> x.hid(n), 0, 0, ends(13, 13));
        ShipSkins x = drops(2);
        x.hidden(0, 0, 0);
        due("the first of two", x.hid(0), 11);
        due("the second of two", x.hid(1), 21);
        for (int i : new int[] {-1, 2, Integer.MIN_VALUE, Integer.MAX_VALUE}) due("i " + i, x.hid(i), -1);
    }

    static void p30_noneAheadOfAnyAndOfNone() {
        ShipSkins x = drops(2);
        due("ahead of any", x.hid(0), -1);
        x.hidden(0, 0, 0);
        x.hidden(0, 0, 100000);
        due("of none, the first", x.hid(0), -1);
        due("of none, the second", x.hid(1), -1);
        x.hidden(0, 0, 0);
        x.look(0, 5, 0, 0, 1, 0);
        x.miss(0, 0);
        due("it stays as it was", x.hid(1), 21);
    }

    static void p31_dayIs0To119() {
        tells("day", (x, n) -> x.call(n), 0, 119, 3);
    }

    static void p31_twice() {
        refuses("the first again", Edges::some, x -> x.call(3), -4);
        refuses("the last again", Edges::some, x -> x.call(15), -4);
        takes("the day ahead", Edges::some, x -> x.call(14), 3);
        takes("the day behind", Edges::some, x -> x.call(16), 3);
        ShipSkins x = new ShipSkins();
        due("day 0", x.call(0), 1);
        due("day 0 again", x.call(0), -4);
        due("day 119", x.call(119), 2);
        due("day 119 again", x.call(119), -4);
    }

    static void p31_noRoomForAnEighth() {
        refuses("an eighth", Edges::full, x -> x.call(119), -5);
        refuses("twice is told first", Edges::full, x -> x.call(60), -4);
    }

    static void p31_withoutAShip() {
        due("a call of no ship", new ShipSkins().call(5), 1);
    }

    static void p32_ofNone() {
        due("none", new ShipSkins().clear(), 0);
    }

    static void p32_ofAllAndRoomAgain() {
        ShipSkins x = full();
        due("seven", x.clear(), 7);
        due("none are left", x.count(4), 0);
        due("none again", x.clear(), 0);
        for (int n = 0; n < 7; n++) due("room again, the same days too", x.call(n == 0 ? 3 : 10 * n), n + 1);
    }

    static void p32_bitsBeginAgain() {
        ShipSkins x = calling(1, 2);
        x.clear();
        due("no bits", x.judge(0, 1, 0, 2, 0), -1);
        due("no plan", x.plan(0, 0, 2, 0), 0);
        x.call(2);
        due("the first bit is day 2 now", x.judge(0, 1, 0, 2, 0), 100 + 108 + 0 + 100);
        due("there is no second", x.judge(0, 2, 0, 2, 0), -1);
    }

    static void p32_leavesAllElse() {
        ShipSkins x = some();
        due("two", x.clear(), 2);
        due("status", x.status(), 0);
        x.call(3);
        x.call(15);
        same("all else", seen(x), seen(some()));
        ShipSkins y = some();
        y.ship(-1);
        y.clear();
        due("status", y.status(), -1);
    }

    static void p33_fromIs0ToTo() {
        asks("from, to 119", EdgesOfCurves::callsAtTheEnds, (x, n) -> x.plan(0, n, 119, 0), 0, 119, ends(3, 2));
        asks("from, to 0", EdgesOfCurves::callsAtTheEnds, (x, n) -> x.plan(0, n, 0, 0), 0, 0, ends(1, 1));
    }

    static void p33_toIsFromTo119() {
        asks("to, from 0", EdgesOfCurves::callsAtTheEnds, (x, n) -> x.plan(0, 0, n, 0), 0, 119, ends(1, 3));
        asks("to, from 118", EdgesOfCurves::callsAtTheEnds, (x, n) -> x.plan(0, 118, n, 0), 118, 119, ends(0, 2));
    }

    static void p33_knownIs0To119() {
        asks("known", EdgesOfCurves::knownLate, (x, n) -> x.plan(0, 0, 0, n), 0, 119, ends(1, 0));
    }

    static void p33_noSuchShip() {
        due("the last ship", some().plan(1, 0, 3, 0), 0);
        for (int ship : new int[] {-1, 2, Integer.MIN_VALUE, Integer.MAX_VALUE}) {
            barren("ship " + ship, x -> x.plan(ship, 0, 0, 0), -1);
        }
        due("of none", new ShipSkins().plan(0, 0, 0, 0), -1);
    }

    static void p33_noneWithoutASpan() {
        due("as known ahead", boundless().plan(0, 0, 0, 49), 0);
        barren("as known from then on", EdgesOfCurves::boundless, x -> x.plan(0, 0, 0, 50), -1);
    }

    static void p33_ofNoCalls() {
        due("no calls", calling().plan(0, 0, 119, 0), 0);
    }

    static void p33_ofAllCalls() {
        ShipSkins x = calling(0, 10, 20, 30, 40, 50, 119);
        x.terms(1, 0);
        due("all seven", x.plan(0, 0, 119, 0), 127);
        due("all but the first day's", x.plan(0, 1, 119, 0), 126);
        due("all but the last day's", x.plan(0, 0, 118, 0), 63);
    }

    static void p33_ofAlikeOnesTheFewest() {
        ShipSkins x = calling(0);
        due("100 either way", x.plan(0, 0, 0, 0), 0);
        x.terms(1, 99);
        due("99 with the call", x.plan(0, 0, 0, 0), 1);
        x.terms(0, 0);
        due("all cost nothing", x.plan(0, 0, 119, 0), 0);
    }

    static void p33_thenTheLowestBits() {
        ShipSkins x = underWay(0, 10, 0, 0);
        x.leg(0, 1, 0, 0, 0, 0);
        x.leg(0, 4, 0, 10, 0, 0);
        x.table(0, 0, 0, 0);
        x.call(3);
        x.call(2);
        x.terms(1, 1);
        due("days 2 and 3 are alike", x.plan(0, 1, 4, 0), 1);
        due("without the first", x.clear(), 2);
        x.call(5);
        x.call(2);
        x.call(3);
        due("bits 2 and 4 are alike", x.plan(0, 1, 4, 0), 2);
    }

    static void p34_bitsAre0ToThoseOfAllCalls() {
        asks("bits of two", Edges::some, (x, n) -> x.judge(0, n, 3, 3, 0), 0, 3, ends(0, 70));
        due("bits of none", calling().judge(0, 0, 0, 0, 0), 100);
        for (int bits : new int[] {-1, 1, Integer.MIN_VALUE, Integer.MAX_VALUE}) {
            due("bits " + bits + " of none", calling().judge(0, bits, 0, 0, 0), -1);
        }
        ShipSkins x = calling(0, 10, 20, 30, 40, 50, 119);
        x.terms(0, 1);
        due("bits of seven", x.judge(0, 127, 0, 119, 0), 7);
        due("the seventh alone", x.judge(0, 64, 0, 119, 0), 1);
        for (int bits : new int[] {-1, 128, Integer.MIN_VALUE, Integer.MAX_VALUE}) {
            due("bits " + bits + " of seven", x.judge(0, bits, 0, 119, 0), -1);
        }
    }

    static void p34_fromIs0ToTo() {
        asks("from, to 1", EdgesOfCurves::calling0, (x, n) -> x.judge(0, 0, n, 1, 0), 0, 1, ends(208, 108));
        asks("from, to 119", EdgesOfCurves::calling0, (x, n) -> x.judge(0, 0, n, 119, 0), 0, 119, ends(worstOfAll(), 1000));
    }

    private static ShipSkins calling0() {
        return calling();
    }

    private static long worstOfAll() {
        long all = 0;
        for (int day = 0; day < 120; day++) all += Math.min(1000, 100 + 8 * day);
        return all;
    }

    static void p34_toIsFromTo119() {
        asks("to, from 118", EdgesOfCurves::calling0, (x, n) -> x.judge(0, 0, 118, n, 0), 118, 119, ends(995, 1995));
        asks("to, from 0", EdgesOfCurves::calling0, (x, n) -> x.judge(0, 0, 0, n, 0), 0, 119, ends(100, worstOfAll()));
    }

    static void p34_knownIs0To119() {
        asks("known", EdgesOfCurves::knownLate, (x, n) -> x.judge(0, 0, 0, 0, n), 0, 119, ends(405, 100));
    }

    static void p34_noSuchShip() {
        due("the last ship", some().judge(1, 0, 0, 0, 0), 0);
        for (int ship : new int[] {-1, 2, Integer.MIN_VALUE, Integer.MAX_VALUE}) {
            barren("ship " + ship, x -> x.judge(ship, 0, 0, 0, 0), -1);
        }
        due("of none", new ShipSkins().judge(0, 0, 0, 0, 0), -1);
    }

    static void p34_noneWithoutASpan() {
        due("as known ahead", boundless().judge(0, 0, 0, 0, 49), 100);
        barren("as known from then on", EdgesOfCurves::boundless, x -> x.judge(0, 0, 0, 0, 50), -1);
        ShipSkins x = resting();
        x.table(0, 0, 9, 9);
        due("at rest, too", x.judge(0, 0, 0, 0, 0), -1);
    }

    static void p34_asMuchAsCanBe() {
        ShipSkins x = underWay(1000, 30, 20, 100);
        x.table(1, 3, 0, 100);
        x.terms(1000, 100000);
        due("9000 times 1000 on each day", x.judge(0, 0, 0, 119, 0), 120L * 9000 * 1000);
        ShipSkins y = calling(0, 10, 20, 30, 40, 50, 119);
        y.terms(0, 100000);
        due("seven fees", y.judge(0, 127, 0, 119, 0), 700000);
    }


    static void p00_curvesKeepToTheLaw() {
        ShipSkins x = resting();
        x.look(0, 0, 0, 0, 100, 0);
        x.look(0, 10, 1000, 1000, 1, 0);
        due("10 a day at most", x.miss(0, 0), 900);
        due("day 5", x.curve(5), 50);
        due("day 10", x.curve(10), 100);
        due("day 11", x.curve(11), 100);
    }

    static void p00_curvesAreFrom0To1000() {
        ShipSkins x = resting();
        x.table(0, 0, -5, 5);
        x.cleaned(0, 50, 7);
        x.look(0, 49, 0, 0, 1, 0);
        x.look(0, 50, 0, 0, 1, 0);
        due("nothing is missed", x.miss(0, 0), 0);
        for (int day = 0; day < 120; day++) due("day " + day, x.curve(day), 0);
        ShipSkins y = resting();
        y.table(0, 0, -5, 5);
        y.cleaned(0, 50, 1000);
        y.look(0, 49, 1000, 1000, 1, 0);
        y.look(0, 50, 1000, 1000, 1, 0);
        due("nothing is missed", y.miss(0, 0), 0);
        due("1000 ahead of a day cleaned on", y.curve(49), 1000);
        due("1000 on it", y.curve(50), 1000);
        ShipSkins z = resting();
        z.table(0, 0, -5, -5);
        z.cleaned(0, 50, 1000);
        z.look(0, 48, 4, 4, 1, 0);
        due("day 49 is 0 at least, so day 48 is 5", z.miss(0, 0), 1);
        due("day 48", z.curve(48), 5);
        due("day 49", z.curve(49), 0);
    }

    static void p00_hiddenWithTwoOfTheFirstAndTheLastDays() {
        int[][] pairs = {{1, 2}, {1, 119}, {118, 119}};
        for (int[] pair : pairs) {
            ShipSkins x = resting();
            x.table(0, 0, 5, 10);
            if (pair[0] == 1) x.look(0, 0, 400, 400, 100, 0);
            if (pair[1] == 119) x.look(0, pair[0] == 1 ? 118 : 117, 590, 590, 100, 0);
            for (int day : pair) x.look(0, day, 0, 0, 100, 0);
            hides("days " + pair[0] + " and " + pair[1], x, 1, 2, pair);
        }
    }

    static void p00_hiddenWithNothingLeft() {
        ShipSkins one = drops(1);
        one.look(0, 11, 1, 1, 3, 0);
        hides("day 11 is 0 and not 1", one, 0, 3, 11);
        ShipSkins two = drops(2);
        two.look(0, 11, 1, 1, 3, 0);
        two.look(0, 21, 1, 1, 4, 0);
        hides("days 11 and 21 are 0 and not 1", two, 0, 7, 11, 21);
        ShipSkins none = resting();
        none.look(0, 0, 0, 0, 7, 0);
        none.look(0, 5, 50, 50, 7, 0);
        none.look(0, 6, 0, 0, 100, 0);
        hides("day 0 can be 0", none, 1, 1, 6);
    }

    static void p00_hiddenBesideDaysToldSo() {
        ShipSkins x = resting();
        x.cleaned(0, 20, 100);
        x.look(0, 20, 0, 0, 5, 0);
        x.look(0, 29, 90, 90, 5, 0);
        x.look(0, 30, 0, 0, 100, 0);
        hides("day 20 can be 0", x, 1, 1, 30);
        ShipSkins y = resting();
        y.cleaned(0, 20, 100);
        y.look(0, 20, 101, 101, 5, 0);
        y.look(0, 29, 150, 150, 5, 0);
        y.look(0, 30, 0, 0, 100, 0);
        hides("day 20 can be 100 at most", y, 1, 5 + 1, 30);
    }

    static void p00_zIs0AtLeastBesideHiddenDays() {
        for (int first : new int[] {0, 20}) {
            ShipSkins x = resting();
            x.table(0, 0, 5, 5);
            if (first > 0) x.cleaned(0, first, 100);
            x.look(0, first + 1, 4, 4, 1, 0);
            x.look(0, first + 10, 0, 0, 100, 0);
            hides("0 and 5 a day", x, 1, 1 + 1, first + 10);
            x.look(0, first + 11, 4, 4, 1, 0);
            x.look(0, first + 12, 0, 0, 100, 0);
            hides("0 and 5 a day, twice", x, 1, 1 + 1 + 2, first + 10, first + 12);
        }
    }

    static void p27_byTheLawOfTheDayAhead() {
        ShipSkins x = resting();
        x.leg(0, 10, 1, 0, 0, 0);
        x.table(0, 0, 1, 2);
        x.table(0, 1, 5, 9);
        x.look(0, 9, 0, 0, 1, 0);
        x.look(0, 10, 200, 200, 100, 0);
        x.look(0, 11, 300, 300, 1, 0);
        due("198 and 91", x.miss(0, 0), 198 + 91);
        due("day 9", x.curve(9), 198);
        due("day 10", x.curve(10), 200);
        due("day 11", x.curve(11), 209);
        x.leg(0, 11, 2, 0, 0, 0);
        x.table(0, 2, 7, 7);
        due("198 and 91", x.miss(0, 0), 198 + 91);
        due("day 11 by HIGH", x.curve(11), 209);
        x.look(0, 11, 0, 0, 2, 0);
        due("198 and 95 and 2 times 205", x.miss(0, 0), 198 + 95 + 2 * 205);
        due("day 11 by LOW", x.curve(11), 205);
        due("day 12", x.curve(12), 212);
    }

    static void p27_cleanedOnTheFirstAndTheLastDay() {
        for (int day : new int[] {0, 1, 118, 119}) {
            ShipSkins x = resting();
            x.cleaned(0, day, 30);
            x.look(0, day, 50, 60, 2, 0);
            due("missed by 20", x.miss(0, 0), 40);
            due("as much as was left", x.curve(day), 30);
        }
    }

    static void p27_nothingIsLeftOfAnother() {
        ShipSkins x = resting();
        x.ship(0);
        for (int day : new int[] {0, 60, 119}) {
            x.look(0, day, 0, 0, 1, 0);
            x.look(0, day, 100, 100, 1, 0);
        }
        due("three are missed by 100", x.miss(0, 0), 300);
        due("nothing is missed by the other", x.miss(1, 0), 0);
        due("its curve", x.curve(119), 0);
    }

    static void p27_allOf24EachAtItsOwnPlace() {
        int[] froms = new int[24];
        int[] worths = new int[24];
        for (int n = 0; n < 24; n++) {
            froms[n] = 7 + n * 37 % 24 * 40;
            worths[n] = 1 + n * n * 31 % 100;
        }
        for (int apart : new int[] {0, 1, 5}) {
            ShipSkins x = resting();
            x.table(0, 0, 0, 0);
            for (int n = 0; n < 24; n++) x.look(0, n * apart, froms[n], froms[n] + 13, worths[n], 0);
            int best = 0;
            for (int z = 0; z <= 1000; z++) {
                if (missOf(froms, worths, z) < missOf(froms, worths, best)) best = z;
            }
            due("the least miss", x.miss(0, 0), missOf(froms, worths, best));
            due("the lowest Z with it", x.curve(60), best);
            hides("two cleanings are too dear", x, 100000, missOf(froms, worths, best));
        }
    }

    private static int missOf(int[] froms, int[] worths, int z) {
        int all = 0;
        for (int n = 0; n < froms.length; n++) {
            all += worths[n] * Math.max(0, Math.max(froms[n] - z, z - froms[n] - 13));
        }
        return all;
    }

    /** The laws of days 8, 9, 10 and 11 are unlike one another; days 9 and 11 were seen as told, the others as can be. */
    private static ShipSkins unlikeLaws(int onDay9, int onDay11) {
        ShipSkins x = resting();
        x.table(0, 0, 1, 2);
        x.table(0, 3, 50, 60);
        x.table(0, 1, 5, 9);
        x.table(0, 2, 1, 1);
        x.leg(0, 9, 3, 0, 0, 0);
        x.leg(0, 10, 1, 0, 0, 0);
        x.leg(0, 11, 2, 0, 0, 0);
        x.look(0, 8, 490, 490, 100, 0);
        x.look(0, 9, onDay9, onDay9, 1, 0);
        x.look(0, 10, 0, 0, 100, 0);
        x.look(0, 11, onDay11, onDay11, 1, 0);
        return x;
    }

    static void p29_byTheLawOfTheDayAhead() {
        ShipSkins high = unlikeLaws(500, 20);
        hides("by HIGH day 9 is 492, day 11 is 9", high, 1, 8 + 11 + 1, 10);
        high.look(0, 12, 0, 0, 100, 0);
        hides("day 12, too", high, 1, 8 + 11 + 2, 10, 12);
        ShipSkins low = unlikeLaws(480, 0);
        low.look(0, 12, 0, 0, 100, 0);
        hides("by LOW day 9 is 491, day 11 is 5", low, 1, 11 + 5 + 2, 10, 12);
    }

    static void p32_roomAgainOnTheFirstAndTheLastDay() {
        ShipSkins x = calling(0, 119);
        x.clear();
        due("a call that was", x.judge(0, 0, 0, 0, 0), 100);
        due("day 119 again", x.call(119), 1);
        due("day 0 again", x.call(0), 2);
        due("day 0 is the second now", x.judge(0, 2, 0, 0, 0), 100 * 1);
        due("and not the first", x.judge(0, 1, 119, 119, 0), 100);
    }

    static void p00_missIs0WithinWhatItIsReadAs() {
        ShipSkins x = resting();
        x.table(0, 0, -5, -5);
        x.look(0, 60, 0, 1000, 7, 0);
        due("the least that can be is within it", x.miss(0, 0), 0);
        due("it", x.curve(60), 5 * 59);
        ShipSkins y = sailing();
        y.look(0, 60, 0, 1000, 7, 0);
        y.look(0, 60, 301, 999, 7, 0);
        hides("the least that can be is within both but for 1", y, 9, 0);
        y.look(0, 61, 0, 0, 100, 0);
        hides("300 at least ahead of a hidden day", y, 9, 9, 61);
    }

    static void p00_missOfWorthsThatDifferBy1() {
        ShipSkins x = resting();
        x.look(0, 10, 100, 100, 1, 0);
        x.look(0, 10, 200, 300, 2, 0);
        x.look(0, 9, 200, 200, 5, 0);
        due("100 is missed by 100", x.miss(0, 0), 100);
        due("day 9", x.curve(9), 200);
        due("day 10", x.curve(10), 200);
        ShipSkins y = resting();
        y.look(0, 9, 100, 100, 1, 0);
        y.look(0, 9, 200, 300, 2, 0);
        y.look(0, 10, 210, 210, 5, 0);
        y.look(0, 11, 0, 0, 100, 0);
        hides("100 is missed by 100 ahead of a hidden day", y, 1, 100 + 1, 11);
    }

    static void p00_missFarFromWhatWasLeft() {
        ShipSkins x = resting();
        x.cleaned(0, 9, 500);
        x.look(0, 10, 900, 900, 1, 0);
        due("510 at most", x.miss(0, 0), 390);
        due("the day ahead of the one cleaned on", x.curve(8), 0);
        due("as much as was left", x.curve(9), 500);
        due("10 more", x.curve(10), 510);
    }

    static void p00_missFarFromTheGreatestZ() {
        ShipSkins x = resting();
        x.table(0, 1, -20, -20);
        x.leg(0, 9, 1, 0, 0, 0);
        x.leg(0, 10, 0, 0, 0, 0);
        x.look(0, 10, 990, 990, 3, 0);
        due("day 9 is 1000 at most", x.miss(0, 0), 30);
        due("day 9", x.curve(9), 1000);
        due("day 10", x.curve(10), 980);
        ShipSkins y = resting();
        y.table(0, 1, 20, 20);
        y.leg(0, 10, 1, 0, 0, 0);
        y.leg(0, 11, 0, 0, 0, 0);
        y.look(0, 10, 990, 990, 3, 0);
        y.look(0, 11, 1000, 1000, 100, 0);
        y.look(0, 12, 0, 0, 100, 0);
        hides("day 11 is 1000 at most", y, 1, 30 + 1, 12);
    }

    static void p00_missOfMoreThanOneBelowTheLeastZ() {
        int all = 3 * 645 + 7 * 350 + 2 * 50;
        ShipSkins x = resting();
        tellThree(x, 10);
        x.look(0, 9, 650, 650, 100, 0);
        due("all of day 10 are missed", x.miss(0, 0), all);
        due("day 10", x.curve(10), 650);
        ShipSkins y = resting();
        y.table(0, 1, -10, 0);
        y.leg(0, 9, 1, 0, 0, 0);
        y.leg(0, 10, 0, 0, 0, 0);
        tellThree(y, 9);
        y.look(0, 10, 650, 650, 100, 0);
        y.look(0, 11, 0, 0, 100, 0);
        hides("all of day 9 are missed ahead of a hidden day", y, 1, all + 1, 11);
    }

    /** By a law of 10 a day the first of them is below 0 on the day beside. */
    private static void tellThree(ShipSkins x, int day) {
        x.look(0, day, 5, 5, 3, 0);
        x.look(0, day, 300, 300, 7, 0);
        x.look(0, day, 600, 600, 2, 0);
    }

    static void p00_zIs0OnTheFirstOfTwoHiddenDays() {
        ShipSkins x = resting();
        x.table(0, 0, 5, 5);
        x.look(0, 9, 500, 500, 100, 0);
        x.look(0, 11, 4, 4, 1, 0);
        x.look(0, 12, 0, 0, 100, 0);
        hides("day 10 is 0, so day 11 is 5", x, 1, 1 + 2, 10, 12);
        ShipSkins y = resting();
        y.table(0, 0, 5, 5);
        y.look(0, 9, 500, 500, 100, 0);
        y.look(0, 11, 6, 6, 1, 0);
        y.look(0, 12, 0, 0, 100, 0);
        hides("day 10 is no more than 0, too", y, 1, 1 + 2, 10, 12);
    }

    static void p00_worstOfTheFirstDayIsTheGreatestOfItsSpan() {
        ShipSkins x = sailing();
        x.cleaned(0, 5, 50);
        x.look(0, 5, 10, 20, 1, 0);
        due("on a day cleaned on, too", x.judge(0, 0, 5, 5, 0), 20);
        due("it rises from it", x.judge(0, 0, 5, 6, 0), 20 + 28);
        due("behind the first day it is what was left", x.judge(0, 0, 4, 5, 0), 1000 + 50);
        x.call(5);
        x.terms(1, 20);
        due("a call is not below 20", x.plan(0, 5, 5, 0), 0);
        due("a call is below 50", x.plan(0, 4, 5, 0), 1);
    }
}
