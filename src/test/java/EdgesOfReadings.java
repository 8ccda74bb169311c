/** Edges of the words ahead of promise 1: terms II to VI. */
final class EdgesOfReadings extends Edges {
    private static void reads(String what, ShipSkins x, int fuel, int off, int[] ends) {
        int log = x.log(0, 0, fuel, off, 1, 0);
        due(what + ": the least", x.of(log, 2), ends[0]);
        due(what + ": the greatest", x.of(log, 3), ends[1]);
        due(what + ": whether it can be read", x.quarrel(log, log), ends[0] == -1 ? -1 : 0);
    }

    private static int[] to(int least, int greatest) {
        return new int[] {least, greatest};
    }

    private static void shares(String what, ShipSkins x, int z, int... want) {
        for (int i = 0; i < 5; i++) due(what + ", what " + i, x.share(0, 0, z, i), want[i]);
    }

    static void p00_fuelThrough100Cut() {
        int[][] baseAndFuel = {{0, 0}, {99, 0}, {100, 1}, {199, 1}, {200, 2}, {1000, 10}};
        for (int[] row : baseAndFuel) due("fuel of " + row[0], underWay(row[0], 1, 0, 0).share(0, 0, 0, 4), row[1]);
        due("of all portions together 100", underWay(25, 1, 5, 25).share(0, 0, 25, 4), 1);
        due("of all portions together 99", underWay(25, 1, 5, 25).share(0, 0, 24, 4), 0);
    }

    static void p00_theLeastAndTheMostFuel() {
        shares("the least under way", underWay(0, 1, 0, 0), 0, 0, 0, 0, 0, 0);
        shares("the most", underWay(1000, 30, 20, 100), 1000, 9000, 120, 30, 9000, 18150);
    }

    static void p00_restsOfTheFuel() {
        shares("no rest: 100 100 0 300", underWay(100, 1, 10, 0), 300, 1, 1, 0, 3, 5);
        shares("rests that make no ton: 99 0 0 0", underWay(99, 1, 0, 0), 0, 0, 0, 0, 0, 0);
        shares("one: 40 0 0 60", underWay(40, 1, 0, 0), 60, 0, 0, 0, 1, 1);
        shares("two: 90 81 0 40", underWay(90, 1, 9, 0), 40, 1, 1, 0, 0, 2);
        shares("three: 675 75 75 675", underWay(75, 3, 5, 25), 75, 7, 1, 1, 6, 15);
    }

    static void p00_ofAlikeRestsTheLowerNumber() {
        shares("50 0 0 50", underWay(50, 1, 0, 0), 50, 1, 0, 0, 0, 1);
        shares("0 0 50 50", underWay(0, 1, 0, 50), 50, 0, 0, 1, 0, 1);
        shares("25 25 25 25", underWay(25, 1, 5, 25), 25, 1, 0, 0, 0, 1);
        shares("0 36 36 28", underWay(0, 1, 6, 36), 28, 0, 1, 0, 0, 1);
        shares("28 36 36 0", underWay(28, 1, 6, 36), 0, 0, 1, 0, 0, 1);
    }

    static void p00_twentyFourLogsOfAllShips() {
        ShipSkins x = sailing();
        x.ship(0);
        for (int n = 0; n < 24; n++) {
            due("log " + n, n % 2 == 0 ? x.log(0, n, n, 0, 1, 0) : x.look(1, n, n, n, 1, 0), n);
        }
        due("one more log", x.log(0, 0, 0, 0, 1, 0), -5);
        due("one more look", x.look(1, 0, 0, 0, 1, 0), -5);
        due("the last of them", x.of(23, 2), 23);
        due("there is no more", x.of(24, 2), -1);
    }

    static void p00_readFromToldLessOffToToldAndOff() {
        reads("100 off by 0", underWay(0, 10, 0, 0), 100, 0, to(100, 100));
        reads("100 off by 5", underWay(0, 10, 0, 0), 100, 5, to(95, 105));
        reads("500 off by 500", underWay(0, 10, 0, 0), 500, 500, to(0, 1000));
        reads("500 off by 499", underWay(0, 10, 0, 0), 500, 499, to(1, 999));
        reads("0 off by 1000", underWay(0, 10, 0, 0), 0, 1000, to(0, 1000));
        reads("3 off by 5", underWay(0, 10, 0, 0), 3, 5, to(0, 8));
        reads("998 off by 5", underWay(0, 10, 0, 0), 998, 5, to(993, 1000));
    }

    static void p00_readByFuelThatIsCut() {
        reads("9 Z from 0 to 99", underWay(0, 3, 0, 0), 0, 0, to(0, 11));
        reads("9 Z from 100 to 199", underWay(0, 3, 0, 0), 1, 0, to(12, 22));
        reads("9 Z from 9000 on", underWay(0, 3, 0, 0), 90, 0, to(1000, 1000));
        reads("Z from 0 to 99", underWay(0, 1, 0, 0), 0, 0, to(0, 99));
        reads("Z from 1000 on", underWay(0, 1, 0, 0), 10, 0, to(1000, 1000));
        reads("1 and Z from 100 to 199", underWay(0, 1, 0, 1), 1, 0, to(99, 198));
    }

    static void p00_noZAsLow() {
        reads("100 and Z, told 99", underWay(100, 10, 0, 0), 99, 0, to(-1, -1));
        reads("100 and Z, told 99 off by 1", underWay(100, 10, 0, 0), 99, 1, to(0, 0));
        reads("100 and Z, told 100", underWay(100, 10, 0, 0), 100, 0, to(0, 0));
    }

    static void p00_noZAsHigh() {
        reads("Z, told 1001", underWay(0, 10, 0, 0), 1001, 0, to(-1, -1));
        reads("Z, told 1001 off by 1", underWay(0, 10, 0, 0), 1001, 1, to(1000, 1000));
        reads("Z, told 2000 off by 1000", underWay(0, 10, 0, 0), 2000, 1000, to(1000, 1000));
        reads("Z, told 2001 off by 1000", underWay(0, 10, 0, 0), 2001, 1000, to(-1, -1));
        reads("the most fuel", underWay(1000, 30, 20, 100), 18150, 0, to(1000, 1000));
        reads("told as much as can be", underWay(1000, 30, 20, 100), 100000, 1000, to(-1, -1));
    }

    static void p00_noZBetween() {
        reads("9 Z, told 5", underWay(0, 30, 0, 0), 5, 0, to(-1, -1));
        reads("9 Z, told 5 off by 3", underWay(0, 30, 0, 0), 5, 3, to(-1, -1));
        reads("9 Z, told 5 off by 4", underWay(0, 30, 0, 0), 5, 4, to(1, 1));
        reads("9 Z, told 5 off by 5", underWay(0, 30, 0, 0), 5, 5, to(0, 1));
    }

    static void p00_noneAtRestByALegToldLater() {
        ShipSkins x = underWay(0, 10, 0, 0);
        x.log(0, 0, 100, 1000, 1, 0);
        x.leg(0, 0, 0, 0, 0, 0);
        due("the least", x.of(0, 2), -1);
        due("the greatest", x.of(0, 3), -1);
        due("it does not count", x.miss(0, 119), 0);
        x.leg(0, 0, 0, 30, 0, 0);
        due("under way again: 9 Z up to 1100", x.of(0, 3), 122);
    }

    static void p00_looksAreReadAsTold() {
        for (int[] row : new int[][] {{0, 0}, {1000, 1000}, {0, 1000}, {3, 4}}) {
            ShipSkins x = resting();
            x.look(0, 0, row[0], row[1], 1, 0);
            due("at rest, the least", x.of(0, 2), row[0]);
            due("at rest, the greatest", x.of(0, 3), row[1]);
        }
    }

    static void p00_countFromTheDayKnownOn() {
        for (int known : new int[] {1, 60, 119}) {
            ShipSkins x = resting();
            x.look(0, 0, 7, 7, 1, known);
            due("the day ahead", x.span(0, 0, known - 1, 0), 0);
            due("that day", x.span(0, 0, known, 0), 7);
            due("the last day", x.span(0, 0, 119, 0), 7);
        }
        ShipSkins x = resting();
        x.look(0, 119, 7, 7, 1, 0);
        due("a look of day 119 known from day 0 on", x.span(0, 119, 0, 1), 7);
    }

    static void p00_countNotLeftOutNotUnreadNotOthers() {
        ShipSkins x = resting();
        x.ship(0);
        x.look(0, 0, 7, 7, 1, 0);
        due("it counts", x.span(0, 0, 0, 0), 7);
        due("not of another ship", x.span(1, 0, 0, 0), 0);
        x.leave(0, 1);
        due("left out", x.span(0, 0, 0, 0), 0);
        x.leave(0, 0);
        x.alter(0, 8);
        due("from 15 to 7 can't be read", x.span(0, 0, 0, 0), 0);
        x.alter(0, 8);
        due("it counts again", x.span(0, 0, 0, 0), 7);
    }

    static void p00_spanNoneWithoutSuchACurve() {
        ShipSkins x = resting();
        x.look(0, 0, 100, 100, 1, 0);
        x.look(0, 119, 1000, 1000, 1, 1);
        due("as much as can be", x.span(0, 119, 1, 0), 1000);
        x.table(0, 0, 0, 7);
        due("7 times 119 and 100 are below 1000", x.span(0, 60, 1, 0), -1);
        due("as known ahead", x.span(0, 119, 0, 1), 933);
        due("the day's own number matters not", x.span(0, 0, 1, 1), -1);
    }

    static void p00_whyNoneByCurvesAlone() {
        ShipSkins x = resting();
        x.look(0, 0, 0, 1000, 1, 0);
        due("0 by curves alone", x.why(0, 0, 0, 0), -1);
        due("1000 by curves alone", x.why(0, 0, 0, 1), -1);
        x.look(0, 0, 1, 999, 1, 0);
        due("1 by log 1", x.why(0, 0, 0, 0), 1);
        due("999 by log 1", x.why(0, 0, 0, 1), 1);
    }

    static void p00_whyTheLowestLog() {
        ShipSkins x = resting();
        for (int n = 0; n < 24; n++) x.look(0, n, n == 0 ? 0 : 5, 1000, 1, 0);
        due("all but log 0 make 5 of day 30", x.why(0, 30, 0, 0), 1);
        for (int n = 1; n < 23; n++) x.leave(n, 1);
        due("the last log alone", x.why(0, 30, 0, 0), 23);
    }

    static void p00_whyOnlyOfEndsThatThereAre() {
        ShipSkins x = resting();
        x.look(0, 0, 5, 5, 1, 0);
        x.look(0, 0, 6, 6, 1, 0);
        due("no least", x.why(0, 0, 0, 0), -1);
        due("no greatest", x.why(0, 0, 0, 1), -1);
    }

    static void p00_lostEachDayCut() {
        ShipSkins x = underWay(0, 1, 0, 0);
        x.table(1, 0, 0, 0);
        x.look(0, 0, 99, 199, 1, 0);
        due("99 through 100 a hundred times", x.lost(0, 0, 99, 0, 0), 0);
        due("199 through 100 a hundred times", x.lost(0, 0, 99, 0, 1), 100);
    }

    static void p00_lostOfDaysUnderWayAlone() {
        ShipSkins x = underWay(1000, 10, 20, 100);
        x.leg(0, 1, 0, 0, 20, 100);
        x.leg(0, 119, 0, 10, 0, 0);
        x.table(1, 1, 0, 0);
        x.table(0, 0, 0, 0);
        x.look(0, 0, 1, 1000, 1, 0);
        due("days 0 and 119, skin alone, at least", x.lost(0, 0, 119, 0, 0), 2);
        due("days 0 and 119, skin alone, at most", x.lost(0, 0, 119, 0, 1), 2000);
        due("days at rest", x.lost(0, 1, 118, 0, 1), 0);
    }

    static void p00_widestIsTheFirstOfAlikeOnes() {
        ShipSkins x = resting();
        x.table(0, 0, 0, 0);
        due("all are alike", x.widest(0, 0, 119, 0), 0);
        due("all are alike from 7 on", x.widest(0, 7, 119, 0), 7);
        x.cleaned(0, 50, 1000);
        x.look(0, 0, 1, 1000, 1, 0);
        due("1 more from day 50 on", x.widest(0, 0, 119, 0), 50);
        due("up to the day ahead", x.widest(0, 0, 49, 0), 0);
    }

    static void p00_quarrelWithItself() {
        ShipSkins x = resting();
        x.cleaned(0, 50, 30);
        x.look(0, 50, 30, 40, 1, 0);
        x.look(0, 50, 31, 40, 1, 0);
        x.look(0, 0, 0, 1000, 1, 0);
        due("one that a curve meets at its end", x.quarrel(0, 0), 0);
        due("one that no curve meets", x.quarrel(1, 1), 1);
        due("with all of its ship: the one", x.quarrel(1, 0), 1);
        due("with all of its ship: the other", x.quarrel(2, 1), 1);
        due("the good ones", x.quarrel(0, 2), 0);
    }

    static void p00_twoQuarrelIfNoCurveMeetsBoth() {
        ShipSkins x = resting();
        x.look(0, 0, 10, 20, 1, 0);
        x.look(0, 0, 20, 30, 1, 0);
        x.look(0, 0, 21, 30, 1, 0);
        x.look(0, 0, 0, 9, 1, 0);
        x.look(0, 0, 0, 10, 1, 0);
        due("both end on 20", x.quarrel(0, 1), 0);
        due("21 is behind 20", x.quarrel(0, 2), 1);
        due("9 is ahead of 10", x.quarrel(0, 3), 1);
        due("both end on 10", x.quarrel(0, 4), 0);
    }

    static void p00_quarrelOfTheFirstAndTheLastDay() {
        ShipSkins x = resting();
        x.table(0, 0, 1, 5);
        x.look(0, 0, 100, 100, 1, 0);
        x.look(0, 119, 695, 695, 1, 0);
        x.look(0, 119, 696, 696, 1, 0);
        x.look(0, 119, 219, 219, 1, 0);
        x.look(0, 119, 218, 218, 1, 0);
        due("by 5 a day", x.quarrel(0, 1), 0);
        due("by more", x.quarrel(0, 2), 1);
        due("by 1 a day", x.quarrel(0, 3), 0);
        due("by less", x.quarrel(0, 4), 1);
    }
}
