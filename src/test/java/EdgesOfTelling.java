/** Edges of promises 1 to 10: what is told. */
final class EdgesOfTelling extends Edges {
    static void p01_noShipsNoLogs() {
        ShipSkins x = new ShipSkins();
        for (int what = 0; what <= 6; what++) due("count " + what, x.count(what), 0);
        due("status", x.status(), 0);
        due("no ship 0", x.span(0, 0, 0, 0), -1);
        due("no log 0", x.of(0, 0), -1);
        due("no log 0 to leave", x.leave(0, 1), -2);
        due("no ship 0 to tell of", x.leg(0, 0, 0, 0, 0, 0), -2);
    }

    static void p01_nothingIsTheLatest() {
        ShipSkins x = new ShipSkins();
        x.ship(0);
        x.look(0, 0, 0, 0, 1, 0);
        due("right", x.isRight(0), -1);
        due("proof", x.proof(0), -1);
        due("fault", x.fault(), -1);
        due("curve", x.curve(0), -1);
        due("hidden", x.hid(0), -1);
        due("seal", x.found(), -3);
        due("image 0", x.back(0), -2);
        due("image 1", x.back(1), -2);
    }

    static void p01_twoObjectsShareNothing() {
        ShipSkins x = full();
        ShipSkins y = new ShipSkins();
        due("the first ship", y.ship(5), 0);
        due("the first log", y.look(0, 0, 0, 0, 1, 0), 0);
        due("no image", y.back(0), -2);
        due("no call", y.clear(), 0);
        due("calls of the other", x.count(4), 7);
    }

    static void p02_whichIs0To1() {
        tells("which", (x, n) -> x.table(n, 0, 1, 2), 0, 1, 0);
    }

    static void p02_placeAtRestIs0To5() {
        tells("place at rest", (x, n) -> x.table(0, n, 1, 2), 0, 5, 0);
    }

    static void p02_placeUnderWayIs0To3() {
        tells("place under way", (x, n) -> x.table(1, n, 1, 2), 0, 3, 0);
    }

    static void p02_lowIsFromMinus100On() {
        tells("low", (x, n) -> x.table(0, 0, n, 100), -100, 100, 0);
        tells("low under way", (x, n) -> x.table(1, 1, n, 100), -100, 100, 0);
    }

    static void p02_highIsUpTo100() {
        tells("high", (x, n) -> x.table(0, 0, -100, n), -100, 100, 0);
        tells("high under way", (x, n) -> x.table(1, 1, -100, n), -100, 100, 0);
    }

    static void p02_lowIsNotAboveHigh() {
        takes("low as high", Edges::some, x -> x.table(0, 0, 5, 5), 0);
        refuses("low above high", Edges::some, x -> x.table(0, 0, 5, 4), -1);
        takes("low as high below 0", Edges::some, x -> x.table(1, 3, -5, -5), 0);
        refuses("low above high below 0", Edges::some, x -> x.table(1, 3, -4, -5), -1);
    }

    static void p02_eachPlaceIsItsOwn() {
        for (int place = 0; place < 10; place++) {
            ShipSkins x = resting();
            for (int sea = 0; sea < 6; sea++) x.leg(0, sea, sea, 0, 0, 0);
            for (int pace = 0; pace < 4; pace++) x.leg(0, 6 + pace, 0, 8 * pace + 5, 0, 0);
            x.table(place < 6 ? 0 : 1, place < 6 ? place : place - 6, -77, 88);
            for (int day = 0; day < 10; day++) {
                due("low", x.law(0, day, 0), day == place ? -77 : day < 6 ? 0 : -10);
                due("high", x.law(0, day, 1), day == place ? 88 : day < 6 ? 10 : 0);
            }
        }
    }

    static void p02_aRefusedOneLeavesTheLaw() {
        ShipSkins x = resting();
        x.table(0, 0, 3, 4);
        x.table(0, 0, 3, 101);
        x.table(0, 0, 2, 1);
        due("low", x.law(0, 0, 0), 3);
        due("high", x.law(0, 0, 1), 4);
    }

    static void p03_baseIs0To1000() {
        tells("base", (x, n) -> x.ship(n), 0, 1000, 2);
    }

    static void p03_numbersFrom0On() {
        ShipSkins x = new ShipSkins();
        for (int n = 0; n < 3; n++) due("ship", x.ship(500 * n), n);
        for (int n = 0; n < 3; n++) {
            x.leg(n, 0, 0, 10, 0, 0);
            due("fuel by its base", x.share(n, 0, 0, 4), 500 * n);
        }
    }

    static void p03_noRoomForAFourth() {
        refuses("a fourth ship", Edges::full, x -> x.ship(0), -5);
        ShipSkins x = new ShipSkins();
        x.ship(-1);
        x.ship(1001);
        for (int n = 0; n < 3; n++) due("refused ones take no room", x.ship(0), n);
    }

    static void p04_dayIs0To119() {
        tells("day", (x, n) -> x.leg(1, n, 1, 5, 2, 3), 0, 119, 4);
    }

    static void p04_seaIs0To5() {
        tells("sea", (x, n) -> x.leg(1, 9, n, 5, 2, 3), 0, 5, 4);
        tells("sea at rest", (x, n) -> x.leg(1, 9, n, 0, 2, 3), 0, 5, 4);
    }

    static void p04_speedIs0To30() {
        tells("speed", (x, n) -> x.leg(1, 9, 1, n, 2, 3), 0, 30, 4);
    }

    static void p04_windIs0To20() {
        tells("wind", (x, n) -> x.leg(1, 9, 1, 5, n, 3), 0, 20, 4);
        tells("wind at rest", (x, n) -> x.leg(1, 9, 1, 0, n, 3), 0, 20, 4);
    }

    static void p04_loadIs0To100() {
        tells("load", (x, n) -> x.leg(1, 9, 1, 5, 2, n), 0, 100, 4);
        tells("load at rest", (x, n) -> x.leg(1, 9, 1, 0, 2, n), 0, 100, 4);
    }

    static void p04_noSuchShip() {
        tells("ship", Edges::some, (x, n) -> x.leg(n, 9, 1, 5, 2, 3), 0, 1, 4, -2);
        refuses("of none", ShipSkins::new, x -> x.leg(0, 0, 0, 0, 0, 0), -2);
    }

    static void p04_noRoomForA61st() {
        refuses("a 61st leg", Edges::full, x -> x.leg(0, 0, 0, 0, 0, 0), -5);
    }

    static void p04_refusedOnesTakeNoRoom() {
        ShipSkins x = resting();
        x.leg(0, 120, 0, 0, 0, 0);
        x.leg(1, 0, 0, 0, 0, 0);
        for (int n = 1; n <= 60; n++) due("how many there are", x.leg(0, 0, 0, 0, 0, 0), n);
        due("a 61st", x.leg(0, 0, 0, 0, 0, 0), -5);
    }

    static void p05_dayIs0To119() {
        tells("day", (x, n) -> x.cleaned(0, n, 3), 0, 119, 3);
    }

    static void p05_leftIs0To1000() {
        tells("left", (x, n) -> x.cleaned(0, 9, n), 0, 1000, 3);
    }

    static void p05_noSuchShip() {
        tells("ship", Edges::some, (x, n) -> x.cleaned(n, 9, 3), 0, 1, 3, -2);
        refuses("of none", ShipSkins::new, x -> x.cleaned(0, 0, 0), -2);
    }

    static void p05_twice() {
        refuses("with as much left", Edges::some, x -> x.cleaned(0, 60, 50), -4);
        refuses("with more left", Edges::some, x -> x.cleaned(0, 60, 51), -4);
        refuses("on day 0", Edges::some, x -> x.cleaned(1, 0, 8), -4);
        takes("the other ship on that day", Edges::some, x -> x.cleaned(1, 60, 50), 3);
        takes("the day ahead", Edges::some, x -> x.cleaned(0, 59, 50), 3);
        takes("the day behind", Edges::some, x -> x.cleaned(0, 61, 50), 3);
    }

    static void p05_noRoomForA41st() {
        refuses("a 41st", Edges::full, x -> x.cleaned(0, 61, 0), -5);
    }

    static void p05_refusedOnesTakeNoRoom() {
        ShipSkins x = resting();
        x.cleaned(0, 0, 1001);
        x.cleaned(1, 0, 0);
        for (int n = 1; n <= 40; n++) {
            due("how many there are", x.cleaned(0, n, 0), n);
            due("twice", x.cleaned(0, n, 0), -4);
        }
        due("a 41st", x.cleaned(0, 41, 0), -5);
    }

    static void p06_priceIs0To1000() {
        tells("price", (x, n) -> x.terms(n, 9), 0, 1000, 0);
    }

    static void p06_feeIs0To100000() {
        tells("fee", (x, n) -> x.terms(9, n), 0, 100000, 0);
    }

    static void p06_atFirst1And100() {
        ShipSkins x = sailing();
        x.look(0, 0, 10, 10, 1, 0);
        x.call(1);
        due("price 1", x.judge(0, 0, 0, 0, 0), 10);
        due("price 1 and fee 100", x.judge(0, 1, 0, 1, 0), 10 + 100);
    }

    static void p06_theEdgesCount() {
        ShipSkins x = sailing();
        x.look(0, 0, 10, 10, 1, 0);
        x.call(1);
        x.terms(0, 100000);
        due("price 0, the greatest fee", x.judge(0, 1, 0, 1, 0), 100000);
        x.terms(1000, 0);
        due("the greatest price, fee 0", x.judge(0, 1, 0, 1, 0), 10000);
        x.terms(1001, 7);
        x.terms(7, 100001);
        due("refused ones leave both", x.judge(0, 1, 0, 1, 0), 10000);
    }

    static void p07_dayIs0To119() {
        tells("day", Edges::allUnderWay, (x, n) -> x.log(0, n, 50, 5, 3, 7), 0, 119, 6, -1);
    }

    static void p07_fuelIs0To100000() {
        tells("fuel", (x, n) -> x.log(0, 11, n, 5, 3, 7), 0, 100000, 6);
    }

    static void p07_offIs0To1000() {
        tells("off", (x, n) -> x.log(0, 11, 50, n, 3, 7), 0, 1000, 6);
    }

    static void p07_worthIs1To100() {
        tells("worth", (x, n) -> x.log(0, 11, 50, 5, n, 7), 1, 100, 6);
    }

    static void p07_knownIs0To119() {
        tells("known", (x, n) -> x.log(0, 11, 50, 5, 3, n), 0, 119, 6);
    }

    static void p07_noSuchShip() {
        tells("ship", Edges::some, (x, n) -> x.log(n, 11, 50, 5, 3, 7), 0, 1, 6, -2);
        refuses("of none", ShipSkins::new, x -> x.log(0, 0, 0, 0, 1, 0), -2);
    }

    static void p07_onADayUnderWay() {
        refuses("the last day ahead of the leg", Edges::some, x -> x.log(0, 9, 50, 5, 3, 7), -3);
        takes("the leg's first day", Edges::some, x -> x.log(0, 10, 50, 5, 3, 7), 6);
        takes("the leg's last day", Edges::some, x -> x.log(0, 39, 50, 5, 3, 7), 6);
        refuses("the first day at rest again", Edges::some, x -> x.log(0, 40, 50, 5, 3, 7), -3);
        refuses("without a leg", Edges::resting, x -> x.log(0, 0, 0, 0, 1, 0), -3);
    }

    static void p07_noRoomForA25th() {
        refuses("a 25th log", Edges::full, x -> x.log(0, 11, 50, 5, 3, 7), -5);
    }

    static void p07_oneThatCantBeReadIsTaken() {
        ShipSkins x = underWay(0, 10, 0, 0);
        due("of as much fuel as can be", x.log(0, 0, 100000, 0, 1, 0), 0);
        due("it can't be read", x.of(0, 2), -1);
        due("it takes room", x.count(3), 1);
    }

    static void p07_refusedOnesTakeNoRoom() {
        ShipSkins x = underWay(0, 10, 0, 0);
        x.leg(0, 50, 0, 0, 0, 0);
        x.log(0, 0, -1, 0, 1, 0);
        x.log(1, 0, 0, 0, 1, 0);
        x.log(0, 50, 0, 0, 1, 0);
        for (int n = 0; n < 24; n++) due("its number", x.log(0, 49, n, 0, 1, 0), n);
        due("a 25th", x.log(0, 49, 0, 0, 1, 0), -5);
    }

    static void p08_dayIs0To119() {
        tells("day", (x, n) -> x.look(0, n, 5, 6, 3, 7), 0, 119, 6);
    }

    static void p08_fromIs0ToTo() {
        tells("from, to 1000", (x, n) -> x.look(0, 11, n, 1000, 3, 7), 0, 1000, 6);
        tells("from, to 500", (x, n) -> x.look(0, 11, n, 500, 3, 7), 0, 500, 6);
        tells("from, to 0", (x, n) -> x.look(0, 11, n, 0, 3, 7), 0, 0, 6);
    }

    static void p08_toIsFromTo1000() {
        tells("to, from 0", (x, n) -> x.look(0, 11, 0, n, 3, 7), 0, 1000, 6);
        tells("to, from 500", (x, n) -> x.look(0, 11, 500, n, 3, 7), 500, 1000, 6);
        tells("to, from 1000", (x, n) -> x.look(0, 11, 1000, n, 3, 7), 1000, 1000, 6);
    }

    static void p08_worthIs1To100() {
        tells("worth", (x, n) -> x.look(0, 11, 5, 6, n, 7), 1, 100, 6);
    }

    static void p08_knownIs0To119() {
        tells("known", (x, n) -> x.look(0, 11, 5, 6, 3, n), 0, 119, 6);
    }

    static void p08_noSuchShip() {
        tells("ship", Edges::some, (x, n) -> x.look(n, 11, 5, 6, 3, 7), 0, 1, 6, -2);
        refuses("of none", ShipSkins::new, x -> x.look(0, 0, 0, 0, 1, 0), -2);
    }

    static void p08_atRestToo() {
        takes("a look at rest", Edges::some, x -> x.look(0, 9, 5, 6, 3, 7), 6);
        takes("a look under way", Edges::some, x -> x.look(0, 10, 5, 6, 3, 7), 6);
    }

    static void p08_noRoomForA25th() {
        refuses("a 25th log", Edges::full, x -> x.look(0, 11, 5, 6, 3, 7), -5);
    }

    static void p08_refusedOnesTakeNoRoom() {
        ShipSkins x = resting();
        x.look(0, 0, 1, 0, 1, 0);
        x.look(1, 0, 0, 0, 1, 0);
        for (int n = 0; n < 24; n++) due("its number", x.look(0, 49, n, n, 1, 0), n);
        due("a 25th", x.look(0, 49, 0, 0, 1, 0), -5);
    }

    static void p09_whatIs0To6() {
        asks("what", Edges::some, (x, n) -> x.of(4, n), 0, 6, ends(0, 1));
        int[] look = {0, 70, 100, 300, 6, 0, 1};
        for (int what = 0; what < 7; what++) due("what " + what, some().of(4, what), look[what]);
    }

    static void p09_noSuchLog() {
        asks("log", Edges::some, (x, n) -> x.of(n, 1), 0, 5, ends(0, 20));
        asks("log, known", Edges::some, (x, n) -> x.of(n, 5), 0, 5, ends(0, 60));
        due("the last of 24", full().of(23, 1), 70);
        due("a 25th", full().of(24, 1), -1);
    }

    static void p09_ofTheLeastAndTheGreatestNumbers() {
        ShipSkins x = new ShipSkins();
        for (int n = 0; n < 3; n++) x.ship(0);
        x.look(0, 0, 0, 0, 1, 0);
        x.look(2, 119, 1000, 1000, 100, 119);
        int[] least = {0, 0, 0, 0, 1, 0, 0};
        int[] greatest = {2, 119, 1000, 1000, 100, 119, 0};
        for (int what = 0; what < 7; what++) {
            due("the least, what " + what, x.of(0, what), least[what]);
            due("the greatest, what " + what, x.of(1, what), greatest[what]);
        }
    }

    static void p09_noneOfOneThatCantBeRead() {
        ShipSkins x = underWay(0, 10, 0, 0);
        x.log(0, 0, 1001, 0, 7, 8);
        int[] want = {0, 0, -1, -1, 7, 8, 0};
        for (int what = 0; what < 7; what++) due("what " + what, x.of(0, what), want[what]);
    }

    static void p10_outIs0To1() {
        tells("out", (x, n) -> x.leave(0, n), 0, 1, 0);
    }

    static void p10_noSuchLog() {
        tells("log", Edges::some, (x, n) -> x.leave(n, 1), 0, 5, 0, -2);
        tells("log, not left out", Edges::some, (x, n) -> x.leave(n, 0), 0, 5, 0, -2);
        due("the last of 24", full().leave(23, 1), 0);
        due("a 25th", full().leave(24, 1), -2);
        refuses("of none", ShipSkins::new, x -> x.leave(0, 1), -2);
    }

    static void p10_twiceIsFine() {
        ShipSkins x = some();
        due("left out again", x.leave(4, 1), 0);
        due("it is", x.of(4, 6), 1);
        due("not left out", x.leave(4, 0), 0);
        due("not left out again", x.leave(4, 0), 0);
        due("it is not", x.of(4, 6), 0);
    }

    static void p10_oneThatCantBeRead() {
        ShipSkins x = underWay(0, 10, 0, 0);
        x.log(0, 0, 1001, 0, 7, 8);
        due("left out", x.leave(0, 1), 0);
        due("it is", x.of(0, 6), 1);
    }
}
