/** Edges of the words ahead of promise 1: what it is, and term I. */
final class EdgesOfTerms extends Edges {
    static void p00_usedFor512Calls() {
        ShipSkins x = sailing();
        x.look(0, 0, 100, 110, 5, 0);
        x.look(0, 0, 200, 210, 4, 0);
        int calls = 5;
        while (calls < 506) {
            due("right", x.right(0, 119), 5);
            due("prove", x.prove(0, 119), 6);
            due("miss", x.miss(0, 119), 360);
            calls += 3;
        }
        due("calls so far", calls, 506);
        due("call 507", x.judge(0, 0, 0, 0, 119), -1);
        due("call 508", x.leave(1, 1), 0);
        due("call 509", x.span(0, 0, 119, 1), 110);
        due("call 510", x.hidden(0, 119, 7), 0);
        due("call 511", x.count(6), 6);
        due("call 512", x.judge(0, 0, 0, 1, 119), 110 + 118);
    }

    static void p00_daysAre0To119() {
        ShipSkins x = resting();
        x.table(0, 0, 1, 1);
        x.look(0, 0, 3, 3, 1, 0);
        x.miss(0, 0);
        due("Z of day 0", x.curve(0), 3);
        due("Z of day 119 is 119 days behind", x.curve(119), 122);
        due("there is no day 120", x.curve(120), -1);
        due("there is no day ahead of 0", x.curve(-1), -1);
    }

    static void p00_shipsAre0To2() {
        ShipSkins x = new ShipSkins();
        for (int n = 0; n < 3; n++) {
            due("no ship " + n, x.span(n, 0, 0, 0), -1);
            due("ship " + n, x.ship(0), n);
            due("ship " + n, x.span(n, 0, 0, 0), 0);
        }
        due("a fourth", x.ship(0), -5);
        due("no ship 3", x.span(3, 0, 0, 0), -1);
    }

    static void p00_zIs0AtLeast() {
        ShipSkins x = resting();
        x.table(0, 0, -100, 100);
        due("a least of day 119", x.span(0, 119, 0, 0), 0);
        x.look(0, 50, 0, 0, 1, 0);
        x.table(0, 0, -1, -1);
        due("0 on day 50 can't fall", x.span(0, 0, 0, 0), -1);
        x.table(0, 0, 0, 0);
        due("0 on day 50 can stay", x.span(0, 119, 0, 1), 0);
    }

    static void p00_zIs1000AtMost() {
        ShipSkins x = resting();
        x.table(0, 0, -100, 100);
        due("a greatest of day 0", x.span(0, 0, 0, 1), 1000);
        x.look(0, 50, 1000, 1000, 1, 0);
        x.table(0, 0, 1, 1);
        due("1000 on day 50 can't rise", x.span(0, 0, 0, 0), -1);
        x.table(0, 0, 0, 0);
        due("1000 on day 50 can stay", x.span(0, 119, 0, 0), 1000);
    }

    static void p00_sixtyLegsOfAllShips() {
        ShipSkins x = new ShipSkins();
        for (int n = 0; n < 3; n++) x.ship(0);
        for (int n = 0; n < 60; n++) due("leg " + n, x.leg(n % 3, n, 0, n == 59 ? 20 : 10, 0, 0), n + 1);
        for (int n = 0; n < 3; n++) due("one more of ship " + n, x.leg(n, 0, 0, 0, 0, 0), -5);
        due("the last of them counts", x.share(2, 59, 100, 4), 400);
    }

    static void p00_legOfTheLatestDayNotBehind() {
        ShipSkins x = resting();
        x.leg(0, 50, 0, 20, 0, 0);
        x.leg(0, 49, 0, 10, 0, 0);
        due("the day ahead of both", x.share(0, 48, 100, 4), 0);
        due("the first leg's day", x.share(0, 49, 100, 4), 100);
        due("the second leg's day", x.share(0, 50, 100, 4), 400);
        due("the last day", x.share(0, 119, 100, 4), 400);
        x.leg(0, 119, 0, 30, 0, 0);
        due("ahead of a leg of day 119", x.share(0, 118, 100, 4), 400);
        due("a leg of day 119", x.share(0, 119, 100, 4), 900);
        x.leg(0, 0, 0, 1, 0, 0);
        due("a leg of day 0", x.share(0, 0, 100, 4), 1);
        due("up to the next", x.share(0, 48, 100, 4), 1);
    }

    static void p00_ofAlikeLegsTheOneToldLast() {
        ShipSkins x = resting();
        for (int speed = 3; speed >= 0; speed--) {
            x.leg(0, 7, 0, 10 * speed, 0, 0);
            due("told last", x.share(0, 7, 100, 4), 100 * speed * speed);
        }
        x.leg(0, 6, 0, 30, 0, 0);
        due("one of another day told behind it", x.share(0, 7, 100, 4), 0);
    }

    static void p00_withoutALegAtRestInSea0() {
        ShipSkins x = new ShipSkins();
        x.ship(1000);
        x.table(0, 0, 3, 4);
        x.leg(0, 1, 1, 30, 20, 100);
        due("fuel", x.share(0, 0, 1000, 4), 0);
        for (int what = 0; what < 4; what++) due("share " + what, x.share(0, 0, 1000, what), 0);
        due("low of sea 0", x.law(0, 0, 0), 3);
        due("high of sea 0", x.law(0, 0, 1), 4);
        due("a log of fuel", x.log(0, 0, 0, 1000, 1, 0), -3);
        due("of another ship's leg nothing is known", x.ship(0), 1);
        due("at rest on the last day", x.law(1, 118, 1), 4);
    }

    static void p00_speed0IsAtRestAnd1IsNot() {
        ShipSkins x = new ShipSkins();
        x.ship(100);
        x.leg(0, 0, 0, 0, 20, 100);
        x.leg(0, 1, 0, 1, 0, 0);
        due("fuel at rest", x.share(0, 0, 1000, 4), 0);
        due("fuel at speed 1", x.share(0, 1, 0, 4), 1);
        due("high at rest", x.law(0, 0, 1), 10);
        due("high at speed 1", x.law(0, 1, 1), 0);
        due("a log at rest", x.log(0, 0, 1, 0, 1, 0), -3);
        due("a log at speed 1", x.log(0, 1, 1, 0, 1, 0), 0);
    }

    static void p00_lawUnderWayOfSpeedThrough8() {
        ShipSkins x = resting();
        for (int pace = 0; pace < 4; pace++) x.table(1, pace, pace, 10 + pace);
        int[] speeds = {1, 7, 8, 15, 16, 23, 24, 30};
        for (int i = 0; i < speeds.length; i++) {
            x.leg(0, i, 5, speeds[i], 0, 0);
            due("low at speed " + speeds[i], x.law(0, i, 0), i / 2);
            due("high at speed " + speeds[i], x.law(0, i, 1), 10 + i / 2);
        }
    }

    static void p00_lawAtRestOfItsSea() {
        ShipSkins x = resting();
        for (int sea = 0; sea < 6; sea++) {
            x.table(0, sea, 20 + sea, 30 + sea);
            x.leg(0, sea, sea, 0, 20, 100);
        }
        for (int sea = 0; sea < 6; sea++) {
            due("low in sea " + sea, x.law(0, sea, 0), 20 + sea);
            due("high in sea " + sea, x.law(0, sea, 1), 30 + sea);
        }
    }

    static void p00_lawsAtFirst() {
        ShipSkins x = resting();
        for (int sea = 0; sea < 6; sea++) {
            x.leg(0, sea, sea, 0, 0, 0);
            due("low in sea " + sea, x.law(0, sea, 0), 0);
            due("high in sea " + sea, x.law(0, sea, 1), 10);
        }
        for (int pace = 0; pace < 4; pace++) {
            x.leg(0, 10 + pace, 0, 8 * pace + 6, 0, 0);
            due("low at pace " + pace, x.law(0, 10 + pace, 0), -10);
            due("high at pace " + pace, x.law(0, 10 + pace, 1), 0);
        }
    }

    static void p00_nextDayLessThisOneLiesInTheLaw() {
        int[][] laws = {{-100, 100}, {-100, -100}, {100, 100}, {0, 0}, {-3, 5}};
        for (int[] law : laws) {
            ShipSkins x = resting();
            x.table(0, 0, law[0], law[1]);
            x.cleaned(0, 0, 1000);
            x.cleaned(0, 2, 1000);
            x.table(0, 5, 0, 0);
            x.leg(0, 2, 5, 0, 0, 0);
            x.look(0, 0, 500, 500, 1, 0);
            due("the least of the next day", x.span(0, 1, 0, 0), 500 + law[0]);
            due("the greatest of the next day", x.span(0, 1, 0, 1), 500 + law[1]);
            x.look(0, 1, 500 + law[0], 500 + law[0], 1, 0);
            x.look(0, 1, 500 + law[1], 500 + law[1], 1, 0);
            x.look(0, 1, 499 + law[0], 499 + law[0], 1, 0);
            x.look(0, 1, 501 + law[1], 501 + law[1], 1, 0);
            due("LOW", x.quarrel(0, 1), 0);
            due("HIGH", x.quarrel(0, 2), 0);
            due("below LOW", x.quarrel(0, 3), 1);
            due("above HIGH", x.quarrel(0, 4), 1);
        }
    }

    static void p00_fortyCleanedOfAllShips() {
        ShipSkins x = new ShipSkins();
        for (int n = 0; n < 3; n++) x.ship(0);
        for (int n = 0; n < 40; n++) due("cleaned " + n, x.cleaned(n % 3, n, n), n + 1);
        for (int n = 0; n < 3; n++) due("one more of ship " + n, x.cleaned(n, 119, 0), -5);
        due("the last of them", x.span(0, 39, 0, 1), 39);
    }

    static void p00_cleanedZIsFrom0ToLeft() {
        for (int left : new int[] {0, 1, 999, 1000}) {
            ShipSkins x = resting();
            x.cleaned(0, 50, left);
            due("the least", x.span(0, 50, 0, 0), 0);
            due("the greatest", x.span(0, 50, 0, 1), left);
        }
    }

    static void p00_noLawLeadsToADayCleanedOn() {
        ShipSkins x = resting();
        x.look(0, 49, 900, 900, 1, 0);
        x.cleaned(0, 50, 5);
        due("the day ahead", x.span(0, 49, 0, 0), 900);
        due("the day", x.span(0, 50, 0, 0), 0);
        due("the law leads on from it", x.span(0, 51, 0, 1), 15);
        due("no law", x.law(0, 49, 1), -1000);
        due("a law", x.law(0, 50, 1), 10);
    }

    static void p00_cleanedOnTheFirstAndTheLastDay() {
        ShipSkins x = resting();
        x.cleaned(0, 0, 20);
        x.cleaned(0, 119, 30);
        due("day 0", x.span(0, 0, 0, 1), 20);
        due("the law leads on from day 0", x.span(0, 1, 0, 1), 30);
        due("day 118", x.span(0, 118, 0, 1), 1000);
        due("day 119", x.span(0, 119, 0, 1), 30);
    }

    static void p00_firstReasonOfShip() {
        refuses("a base that can't be, no room", Edges::full, x -> x.ship(1001), -1);
        refuses("no room", Edges::full, x -> x.ship(1000), -5);
    }

    static void p00_firstReasonOfLeg() {
        refuses("a day that can't be, no ship, no room", Edges::full, x -> x.leg(3, 120, 0, 0, 0, 0), -1);
        refuses("a day that can't be, no room", Edges::full, x -> x.leg(0, 120, 0, 0, 0, 0), -1);
        refuses("a day that can't be, no ship", Edges::some, x -> x.leg(2, 120, 0, 0, 0, 0), -1);
        refuses("a load that can't be, no ship", Edges::some, x -> x.leg(2, 0, 0, 0, 0, 101), -1);
        refuses("no ship, no room", Edges::full, x -> x.leg(3, 0, 0, 0, 0, 0), -2);
        refuses("no room", Edges::full, x -> x.leg(2, 0, 0, 0, 0, 0), -5);
    }

    static void p00_firstReasonOfCleaned() {
        refuses("left so much as can't be, no ship, no room", Edges::full, x -> x.cleaned(3, 0, 1001), -1);
        refuses("left so much as can't be, twice, no room", Edges::full, x -> x.cleaned(0, 60, 1001), -1);
        refuses("left so much as can't be, twice", Edges::some, x -> x.cleaned(0, 60, -1), -1);
        refuses("a day that can't be, no ship", Edges::some, x -> x.cleaned(2, 120, 0), -1);
        refuses("no ship, no room", Edges::full, x -> x.cleaned(3, 60, 0), -2);
        refuses("twice, no room", Edges::full, x -> x.cleaned(0, 60, 0), -4);
        refuses("no room", Edges::full, x -> x.cleaned(0, 61, 0), -5);
    }

    static void p00_firstReasonOfLog() {
        refuses("worth that can't be, no ship, no room", Edges::full, x -> x.log(3, 0, 0, 0, 101, 0), -1);
        refuses("known that can't be, at rest, no room", Edges::full, x -> x.log(0, 0, 0, 0, 1, 120), -1);
        refuses("known that can't be, at rest", Edges::some, x -> x.log(0, 0, 0, 0, 1, 120), -1);
        refuses("known that can't be, no ship", Edges::some, x -> x.log(2, 0, 0, 0, 1, 120), -1);
        refuses("no ship, no room", Edges::full, x -> x.log(3, 0, 0, 0, 1, 0), -2);
        refuses("at rest, no room", Edges::full, x -> x.log(0, 9, 0, 0, 1, 0), -3);
        refuses("no room", Edges::full, x -> x.log(0, 10, 0, 0, 1, 0), -5);
    }

    static void p00_firstReasonOfLook() {
        refuses("worth that can't be, no ship, no room", Edges::full, x -> x.look(3, 0, 0, 0, 0, 0), -1);
        refuses("from behind to, no ship", Edges::some, x -> x.look(2, 0, 1, 0, 1, 0), -1);
        refuses("from behind to, no room", Edges::full, x -> x.look(0, 0, 1, 0, 1, 0), -1);
        refuses("no ship, no room", Edges::full, x -> x.look(3, 0, 0, 0, 1, 0), -2);
        refuses("no room", Edges::full, x -> x.look(0, 0, 0, 0, 1, 0), -5);
    }

    static void p00_firstReasonOfLeaveCallAlterBack() {
        refuses("leave: out that can't be, no log", Edges::some, x -> x.leave(6, 2), -1);
        refuses("call: a day that can't be, no room", Edges::full, x -> x.call(120), -1);
        refuses("call: twice, no room", Edges::full, x -> x.call(3), -4);
        refuses("call: no room", Edges::full, x -> x.call(4), -5);
        refuses("alter: a mask that can't be, no log", Edges::some, x -> x.alter(6, 256), -1);
        refuses("back: an image that can't be", Edges::some, x -> x.back(2), -1);
        refuses("back: an image that was not kept", Edges::some, x -> x.back(1), -2);
    }

    static void p00_noneIsMinus1() {
        due("NONE", ShipSkins.NONE, -1);
    }
}
