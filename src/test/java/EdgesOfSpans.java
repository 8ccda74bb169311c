/** Edges of promises 11 to 18: laws, shares, spans, and quarrels. */
final class EdgesOfSpans extends Edges {
    /**
     * Day 0 is 100 to 120, and it rises by 5 to 8 a day: day 119 is 695 to 1000.
     * From day 40 on it is known that day 60 is 420 at least.
     */
    private static ShipSkins bounded() {
        ShipSkins x = sailing();
        x.look(0, 0, 100, 120, 1, 0);
        x.look(0, 60, 420, 1000, 1, 40);
        return x;
    }

    /** As bounded(), but as known from day 50 on there is no curve. */
    private static ShipSkins boundless() {
        ShipSkins x = bounded();
        x.look(0, 119, 0, 0, 1, 50);
        return x;
    }

    private static void outsideLaw(String what, Call call) {
        barren(what, call, -1000);
    }

    static void p11_dayIs0To118() {
        due("day 0", some().law(0, 0, 1), 10);
        due("day 118", some().law(0, 118, 1), 12);
        for (int day : new int[] {-1, 119, 120, Integer.MIN_VALUE, Integer.MAX_VALUE}) {
            outsideLaw("day " + day, x -> x.law(0, day, 1));
        }
    }

    static void p11_whatIs0To1() {
        due("low", some().law(0, 118, 0), 2);
        due("high", some().law(0, 118, 1), 12);
        for (int what : new int[] {-1, 2, Integer.MIN_VALUE, Integer.MAX_VALUE}) {
            outsideLaw("what " + what, x -> x.law(0, 0, what));
        }
    }

    static void p11_nothingWithoutTheShip() {
        due("the last ship", some().law(1, 118, 0), -10);
        for (int ship : new int[] {-1, 2, Integer.MIN_VALUE, Integer.MAX_VALUE}) {
            outsideLaw("ship " + ship, x -> x.law(ship, 0, 0));
        }
        due("of none", new ShipSkins().law(0, 0, 0), -1000);
    }

    static void p11_nothingToADayCleanedOn() {
        ShipSkins x = resting();
        x.cleaned(0, 0, 5);
        x.cleaned(0, 1, 5);
        x.cleaned(0, 119, 5);
        due("from day 0 to day 1", x.law(0, 0, 0), -1000);
        due("from day 1 to day 2", x.law(0, 1, 0), 0);
        due("from day 117 to day 118", x.law(0, 117, 1), 10);
        due("from day 118 to day 119", x.law(0, 118, 1), -1000);
        x.ship(0);
        due("of another ship", x.law(1, 0, 1), 10);
    }

    static void p11_theLeastAndTheGreatestLaw() {
        ShipSkins x = resting();
        x.table(0, 0, -100, 100);
        due("low", x.law(0, 0, 0), -100);
        due("high", x.law(0, 118, 1), 100);
        x.table(0, 0, -100, -100);
        due("high as low", x.law(0, 0, 1), -100);
    }

    static void p12_dayIs0To119() {
        asks("day", () -> underWay(0, 10, 0, 0), (x, n) -> x.share(0, n, 7, 4), 0, 119, ends(7, 7));
    }

    static void p12_zIs0To1000() {
        asks("Z", () -> underWay(0, 10, 0, 0), (x, n) -> x.share(0, 0, n, 4), 0, 1000, ends(0, 1000));
        asks("Z's share", () -> underWay(0, 10, 0, 0), (x, n) -> x.share(0, 0, n, 3), 0, 1000, ends(0, 1000));
    }

    static void p12_zIs0To1000AtRestToo() {
        asks("Z at rest", Edges::resting, (x, n) -> x.share(0, 0, n, 4), 0, 1000, ends(0, 0));
    }

    static void p12_whatIs0To4() {
        asks("what", () -> underWay(3, 10, 0, 0), (x, n) -> x.share(0, 0, 7, n), 0, 4, ends(3, 10));
        asks("what at rest", Edges::resting, (x, n) -> x.share(0, 0, 7, n), 0, 4, ends(0, 0));
    }

    static void p12_noSuchShip() {
        asks("ship", Edges::some, (x, n) -> x.share(n, 39, 0, 4), 0, 1, ends(11, 80));
        due("of none", new ShipSkins().share(0, 0, 0, 0), -1);
    }

    static void p12_zeroAtRest() {
        ShipSkins x = new ShipSkins();
        x.ship(1000);
        x.leg(0, 0, 5, 0, 20, 100);
        for (int what = 0; what <= 4; what++) due("what " + what, x.share(0, 0, 1000, what), 0);
    }

    static void p12_sharesAreTheFuelToTheLastTon() {
        for (int z = 0; z <= 1000; z++) {
            ShipSkins x = underWay(z * 7 % 1001, 1 + z % 30, z % 21, z % 101);
            int all = 0;
            for (int what = 0; what < 4; what++) all += x.share(0, 0, z, what);
            due("shares together", all, x.share(0, 0, z, 4));
        }
    }

    static void p13_dayIs0To119() {
        asks("day, least", EdgesOfSpans::bounded, (x, n) -> x.span(0, n, 0, 0), 0, 119, ends(100, 695));
        asks("day, greatest", EdgesOfSpans::bounded, (x, n) -> x.span(0, n, 0, 1), 0, 119, ends(120, 1000));
    }

    static void p13_knownIs0To119() {
        asks("known", EdgesOfSpans::bounded, (x, n) -> x.span(0, 60, n, 0), 0, 119, ends(400, 420));
    }

    static void p13_whatIs0To1() {
        asks("what", EdgesOfSpans::bounded, (x, n) -> x.span(0, 0, 0, n), 0, 1, ends(100, 120));
    }

    static void p13_noSuchShip() {
        asks("ship", Edges::some, (x, n) -> x.span(n, 0, 0, 1), 0, 1, ends(30, 7));
        due("of none", new ShipSkins().span(0, 0, 0, 0), -1);
    }

    static void p13_noneWithoutACurve() {
        int[] days = {0, 60, 119};
        int[] least = {100, 420, 715};
        for (int i = 0; i < 3; i++) {
            int day = days[i];
            due("as known ahead", boundless().span(0, day, 49, 0), least[i]);
            barren("the least of day " + day, EdgesOfSpans::boundless, x -> x.span(0, day, 50, 0), -1);
            barren("the greatest of day " + day, EdgesOfSpans::boundless, x -> x.span(0, day, 50, 1), -1);
        }
    }

    static void p13_theKnownDayItself() {
        due("the day ahead", bounded().span(0, 60, 39, 0), 400);
        due("the day", bounded().span(0, 60, 40, 0), 420);
    }

    static void p13_noneByLawsAlone() {
        ShipSkins x = resting();
        x.table(0, 0, 8, 8);
        due("8 a day for 119 days", x.span(0, 0, 0, 1), 1000 - 8 * 119);
        x.table(0, 0, 9, 9);
        due("9 a day for 119 days", x.span(0, 0, 0, 1), -1);
        x.table(0, 0, -9, -9);
        due("9 down a day for 119 days", x.span(0, 0, 0, 1), -1);
        x.table(0, 0, -8, -8);
        due("8 down a day for 119 days", x.span(0, 0, 0, 0), 8 * 119);
    }

    static void p14_dayIs0To119() {
        asks("day", EdgesOfSpans::bounded, (x, n) -> x.why(0, n, 119, 0), 0, 119, ends(0, 1));
    }

    static void p14_knownIs0To119() {
        asks("known", EdgesOfSpans::bounded, (x, n) -> x.why(0, 60, n, 0), 0, 119, ends(0, 1));
    }

    static void p14_whatIs0To1() {
        asks("what", EdgesOfSpans::bounded, (x, n) -> x.why(0, 60, 119, n), 0, 1, ends(1, 0));
    }

    static void p14_noSuchShip() {
        ShipSkins x = bounded();
        x.ship(0);
        x.look(1, 0, 3, 3, 1, 0);
        due("the last ship", x.why(1, 0, 0, 0), 2);
        for (int ship : new int[] {-1, 2, Integer.MIN_VALUE, Integer.MAX_VALUE}) {
            barren("ship " + ship, y -> y.why(ship, 0, 0, 0), -1);
        }
        due("of none", new ShipSkins().why(0, 0, 0, 0), -1);
    }

    static void p14_noneWithoutACurve() {
        due("as known ahead", boundless().why(0, 0, 49, 0), 0);
        barren("as known from then on", EdgesOfSpans::boundless, x -> x.why(0, 0, 50, 0), -1);
        barren("the greatest", EdgesOfSpans::boundless, x -> x.why(0, 119, 50, 1), -1);
    }

    static void p14_noneWithoutLogs() {
        due("the least", resting().why(0, 119, 119, 0), -1);
        due("the greatest", resting().why(0, 0, 119, 1), -1);
    }

    static void p15_fromIs0ToTo() {
        asks("from", EdgesOfSpans::bounded, (x, n) -> x.lost(0, n, 1, 0, 0), 0, 1, ends(100 + 105, 105));
        asks("from, to 119", EdgesOfSpans::bounded, (x, n) -> x.lost(0, n, 119, 0, 1), 0, 119, ends(mostLost(), 1000));
    }

    /** It rises by 8 a day from 120, and falls back by 5 a day from 1000 on day 119. */
    private static long mostLost() {
        long all = 0;
        for (int day = 0; day < 120; day++) all += Math.min(120 + 8 * day, 1000 - 5 * (119 - day));
        return all;
    }

    static void p15_toIsFromTo119() {
        asks("to", EdgesOfSpans::bounded, (x, n) -> x.lost(0, 118, n, 0, 0), 118, 119, ends(690, 690 + 695));
        asks("to, from 0", EdgesOfSpans::bounded, (x, n) -> x.lost(0, 0, n, 0, 1), 0, 119, ends(120, mostLost()));
    }

    static void p15_knownIs0To119() {
        asks("known", EdgesOfSpans::bounded, (x, n) -> x.lost(0, 60, 60, n, 0), 0, 119, ends(400, 420));
    }

    static void p15_whatIs0To1() {
        asks("what", EdgesOfSpans::bounded, (x, n) -> x.lost(0, 0, 0, 0, n), 0, 1, ends(100, 120));
    }

    static void p15_noSuchShip() {
        ShipSkins x = bounded();
        x.ship(0);
        due("the last ship, at rest", x.lost(1, 0, 119, 0, 1), 0);
        for (int ship : new int[] {-1, 2, Integer.MIN_VALUE, Integer.MAX_VALUE}) {
            barren("ship " + ship, y -> y.lost(ship, 0, 0, 0, 0), -1);
        }
        due("of none", new ShipSkins().lost(0, 0, 0, 0, 0), -1);
    }

    static void p15_noneWithoutACurve() {
        due("as known ahead", boundless().lost(0, 0, 0, 49, 0), 100);
        barren("as known from then on", EdgesOfSpans::boundless, x -> x.lost(0, 0, 0, 50, 0), -1);
        ShipSkins x = resting();
        x.table(0, 0, 9, 9);
        due("at rest, too", x.lost(0, 0, 0, 0, 0), -1);
    }

    static void p15_asMuchAsCanBe() {
        ShipSkins x = underWay(1000, 30, 20, 100);
        x.table(1, 3, 0, 0);
        x.look(0, 0, 1000, 1000, 1, 0);
        due("9000 on each day", x.lost(0, 0, 119, 0, 0), 120 * 9000);
    }

    static void p16_fromIs0ToTo() {
        asks("from", EdgesOfSpans::bounded, (x, n) -> x.widest(0, n, 20, 0), 0, 20, ends(20, 20));
        asks("from, to 119", EdgesOfSpans::bounded, (x, n) -> x.widest(0, n, 119, 0), 0, 119, ends(widestOf(0, 119), 119));
    }

    private static int widestOf(int from, int to) {
        int best = from;
        for (int day = from; day <= to; day++) {
            if (wide(day) > wide(best)) best = day;
        }
        return best;
    }

    private static int wide(int day) {
        return Math.min(120 + 8 * day, 1000 - 5 * (119 - day)) - (100 + 5 * day);
    }

    static void p16_toIsFromTo119() {
        asks("to", EdgesOfSpans::bounded, (x, n) -> x.widest(0, 118, n, 0), 118, 119, ends(118, widestOf(118, 119)));
        asks("to, from 0", EdgesOfSpans::bounded, (x, n) -> x.widest(0, 0, n, 0), 0, 119, ends(0, widestOf(0, 119)));
    }

    static void p16_knownIs0To119() {
        ShipSkins x = bounded();
        x.look(0, 30, 300, 310, 1, 119);
        due("known 0", x.widest(0, 0, 30, 0), 30);
        due("known 118", x.widest(0, 0, 30, 118), 30);
        due("known 119: day 13 is 165 to 224, day 14 is 172 to 230", x.widest(0, 0, 30, 119), 13);
        for (int known : new int[] {-1, 120, Integer.MIN_VALUE, Integer.MAX_VALUE}) {
            barren("known " + known, y -> y.widest(0, 0, 30, known), -1);
        }
    }

    static void p16_noSuchShip() {
        asks("ship", Edges::some, (x, n) -> x.widest(n, 3, 3, 0), 0, 1, ends(3, 3));
        due("of none", new ShipSkins().widest(0, 0, 0, 0), -1);
    }

    static void p16_noneWithoutACurve() {
        due("as known ahead", boundless().widest(0, 5, 5, 49), 5);
        barren("as known from then on", EdgesOfSpans::boundless, x -> x.widest(0, 5, 5, 50), -1);
    }

    static void p16_widthZeroOnAllDays() {
        ShipSkins x = resting();
        x.table(0, 0, 0, 0);
        x.look(0, 0, 7, 7, 1, 0);
        due("the first of all", x.widest(0, 0, 119, 0), 0);
        due("the first of some", x.widest(0, 118, 119, 0), 118);
    }

    static void p17_indexIsFromNoneToTheLast() {
        asks("i", Edges::some, (x, n) -> x.quarrels(0, 119, n), -1, 2, ends(3, 2 * 24 + 5));
        due("the first", some().quarrels(0, 119, 0), 2);
        due("the second", some().quarrels(0, 119, 1), 24 + 5);
    }

    static void p17_noneOfNone() {
        asks("how many", Edges::resting, (x, n) -> x.quarrels(0, 0, n), -1, -1, ends(0, 0));
        due("no first", resting().quarrels(0, 0, 0), -1);
    }

    static void p17_knownIs0To119() {
        asks("known", Edges::some, (x, n) -> x.quarrels(0, n, -1), 0, 119, ends(0, 3));
        due("the day ahead", some().quarrels(0, 49, -1), 0);
        due("the day", some().quarrels(0, 50, -1), 1);
    }

    static void p17_noSuchShip() {
        asks("ship", Edges::some, (x, n) -> x.quarrels(n, 119, -1), 0, 1, ends(3, 0));
        due("of none", new ShipSkins().quarrels(0, 0, -1), -1);
    }

    static void p17_asManyAsCanBe() {
        ShipSkins x = resting();
        x.cleaned(0, 0, 0);
        for (int n = 0; n < 24; n++) x.look(0, 0, 1, 1, 1, 0);
        due("each with each and itself", x.quarrels(0, 0, -1), 300);
        due("the first", x.quarrels(0, 0, 0), 0);
        due("0 and 23", x.quarrels(0, 0, 23), 23);
        due("1 and 1", x.quarrels(0, 0, 24), 25);
        due("the last", x.quarrels(0, 0, 299), 23 * 24 + 23);
        due("no more", x.quarrels(0, 0, 300), -1);
    }

    static void p17_oneAloneWithItself() {
        ShipSkins x = resting();
        x.cleaned(0, 0, 0);
        x.look(0, 0, 1, 1, 1, 0);
        due("how many", x.quarrels(0, 0, -1), 1);
        due("0 and 0", x.quarrels(0, 0, 0), 0);
        due("no second", x.quarrels(0, 0, 1), -1);
    }

    static void p17_lowerOneFirstThenByTheOther() {
        ShipSkins x = resting();
        x.look(0, 0, 9, 9, 1, 0);
        x.look(0, 0, 0, 5, 1, 0);
        x.look(0, 0, 0, 9, 1, 0);
        x.look(0, 0, 0, 5, 1, 0);
        x.look(0, 0, 9, 9, 1, 0);
        int[] pairs = {0 * 24 + 1, 0 * 24 + 3, 1 * 24 + 4, 3 * 24 + 4};
        due("how many", x.quarrels(0, 0, -1), 4);
        for (int i = 0; i < 4; i++) due("pair " + i, x.quarrels(0, 0, i), pairs[i]);
    }

    static void p17_onlyOfThoseThatCount() {
        ShipSkins x = some();
        x.leave(0, 1);
        due("one is left out", x.quarrels(0, 119, -1), 2);
        due("the first of the others", x.quarrels(0, 119, 0), 24 + 5);
        due("the second of the others", x.quarrels(0, 119, 1), 2 * 24 + 5);
        x.alter(5, 4);
        due("one can't be read", x.quarrels(0, 119, -1), 0);
    }

    static void p18_noSuchLog() {
        asks("the one", Edges::some, (x, n) -> x.quarrel(n, 0), 0, 5, ends(0, 0));
        asks("the other", Edges::some, (x, n) -> x.quarrel(2, n), 0, 5, ends(1, 1));
        asks("one with itself", Edges::some, (x, n) -> x.quarrel(n, n), 0, 5, ends(0, 0));
        due("of none", new ShipSkins().quarrel(0, 0), -1);
    }

    static void p18_theLastOf24() {
        ShipSkins x = resting();
        for (int n = 0; n < 24; n++) x.look(0, 0, n, n, 1, 0);
        due("0 and 23", x.quarrel(0, 23), 1);
        due("23 and 0", x.quarrel(23, 0), 1);
        due("23 and 23", x.quarrel(23, 23), 0);
        due("23 and 24", x.quarrel(23, 24), -1);
    }

    static void p18_noneOfOneThatCantBeRead() {
        ShipSkins x = some();
        x.alter(5, 4);
        due("from 4 to 3 can't be read", x.quarrel(5, 5), -1);
        due("with another", x.quarrel(5, 1), -1);
        due("another with it", x.quarrel(1, 5), -1);
        due("with one of another ship", x.quarrel(5, 3), -1);
        due("one of another ship with it", x.quarrel(3, 5), -1);
    }

    static void p18_countOrNot() {
        ShipSkins x = some();
        due("known from day 50 on", x.quarrel(0, 2), 1);
        x.leave(0, 1);
        x.leave(2, 1);
        due("left out", x.quarrel(0, 2), 1);
    }

    static void p18_zeroOfTwoShips() {
        ShipSkins x = resting();
        x.ship(0);
        x.cleaned(0, 0, 0);
        x.look(0, 0, 1, 1, 1, 0);
        x.look(1, 0, 9, 9, 1, 0);
        due("one that quarrels with itself, of another ship", x.quarrel(0, 1), 0);
        due("the other with it", x.quarrel(1, 0), 0);
        due("it with itself", x.quarrel(0, 0), 1);
    }


    static void p13_noneByTheFirstOrTheLastDayAlone() {
        for (int day : new int[] {0, 119}) {
            ShipSkins x = resting();
            x.cleaned(0, day, 5);
            x.look(0, day, 5, 9, 1, 0);
            x.look(0, day, 6, 9, 1, 1);
            due("at its end", x.span(0, day, 0, 0), 5);
            due("behind its end, of that day", x.span(0, day, 1, 0), -1);
            due("behind its end, of another day", x.span(0, 60, 1, 0), -1);
        }
    }

    static void p13_theLawOfADayLeadsToTheNext() {
        ShipSkins x = resting();
        x.leg(0, 10, 1, 0, 0, 0);
        x.table(0, 0, 1, 2);
        x.table(0, 1, 5, 9);
        x.look(0, 10, 200, 200, 1, 0);
        due("the least of day 9", x.span(0, 9, 0, 0), 198);
        due("the greatest of day 9", x.span(0, 9, 0, 1), 199);
        due("the least of day 11", x.span(0, 11, 0, 0), 205);
        due("the greatest of day 11", x.span(0, 11, 0, 1), 209);
        x.look(0, 9, 198, 198, 1, 1);
        due("the greatest of day 11 by day 10 as by day 9", x.span(0, 11, 1, 1), 209);
        x.leave(0, 1);
        due("the least of day 11 by day 9", x.span(0, 11, 1, 0), 198 + 1 + 5);
        due("the greatest of day 11 by day 9", x.span(0, 11, 1, 1), 198 + 2 + 9);
        due("the least of day 8 by day 9", x.span(0, 8, 1, 0), 196);
    }

    static void p16_ofTwoDays() {
        ShipSkins x = resting();
        x.look(0, 50, 300, 400, 1, 0);
        due("the second is wider", x.widest(0, 50, 51, 0), 51);
        due("the first is wider", x.widest(0, 49, 50, 0), 49);
        due("alike", x.widest(0, 0, 1, 0), 0);
    }
}
