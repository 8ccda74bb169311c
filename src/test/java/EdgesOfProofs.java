/** Edges of promises 19 to 22, and of term IV: the worthiest set, and the proof that is written. */
final class EdgesOfProofs extends Edges {
    /** Looks on day 0 of which 0-1, 0-2 and 1-3 quarrel. */
    private static ShipSkins path(int w0, int w1, int w2, int w3) {
        ShipSkins x = resting();
        x.look(0, 0, 0, 10, w0, 0);
        x.look(0, 0, 25, 40, w1, 0);
        x.look(0, 0, 15, 30, w2, 0);
        x.look(0, 0, 5, 20, w3, 0);
        return x;
    }

    /** Three tangles of looks that have nothing to do with one another; twelve of them are known from day 0 on. */
    private static ShipSkins tangled(int[] looks) {
        ShipSkins x = resting();
        for (int d = 10; d < 120; d += 10) x.cleaned(0, d, 1000);
        x.table(0, 0, -100, 100);
        for (int i = 0; i < looks.length; i += 4) {
            x.look(0, looks[i], looks[i + 1], looks[i + 2], looks[i + 3], i / 4 < 12 ? 0 : 1);
        }
        return x;
    }

    private static void rightIs(String what, ShipSkins x, int worth, int... logs) {
        due(what, x.right(0, 119), worth);
        StringBuilder got = new StringBuilder();
        StringBuilder want = new StringBuilder();
        for (int i = 0; i < x.count(3); i++) got.append(x.isRight(i) == 1 ? " " + i : "");
        for (int log : logs) want.append(" ").append(log);
        same(what, got.toString(), want.toString());
    }

    private static void proofIs(String what, ShipSkins x, String want) {
        due(what + ", bytes", x.prove(0, 119), want.length());
        same(what, proofOf(x), want);
    }

    static void p00_rightHasTheMostWorth() {
        rightIs("one of 3 against two of 1 together", twoAgainstOne(3, 1, 1), 3, 0);
        rightIs("one of 1 against two of 1 together", twoAgainstOne(1, 1, 1), 2, 1, 2);
        rightIs("the most worth", twoAgainstOne(100, 50, 49), 100, 0);
        rightIs("the least worth", twoAgainstOne(1, 1, 100), 101, 1, 2);
    }

    private static ShipSkins twoAgainstOne(int one, int first, int second) {
        ShipSkins x = resting();
        x.look(0, 0, 0, 0, one, 0);
        x.look(0, 0, 9, 9, first, 0);
        x.look(0, 0, 9, 9, second, 0);
        return x;
    }

    static void p00_rightOfAlikeOnesHasTheMostLogs() {
        rightIs("2 against 1 and 1", twoAgainstOne(2, 1, 1), 2, 1, 2);
        rightIs("100 against 50 and 50", twoAgainstOne(100, 50, 50), 100, 1, 2);
    }

    static void p00_rightThenHasTheLowestLog() {
        ShipSkins x = resting();
        x.look(0, 0, 0, 0, 7, 0);
        x.look(0, 0, 9, 9, 7, 0);
        rightIs("0 against 1", x, 7, 0);
        ShipSkins y = resting();
        for (int n = 0; n < 24; n++) y.look(0, 0, n < 12 ? 0 : 9, n < 12 ? 0 : 9, 1 + n % 12, 0);
        rightIs("the lower twelve", y, 78, 0, 1, 2, 3, 4, 5, 6, 7, 8, 9, 10, 11);
        rightIs("0 and 3 against 1 and 2 against 2 and 3", path(1, 1, 1, 1), 2, 0, 3);
    }

    static void p00_rightThenByTheLowestThatOnlyOneHas() {
        ShipSkins x = resting();
        x.look(0, 0, 0, 9, 1, 0);
        x.look(0, 0, 5, 5, 2, 0);
        x.look(0, 0, 4, 4, 1, 0);
        x.look(0, 0, 4, 4, 1, 0);
        x.leave(3, 1);
        rightIs("0 and 1 against 0 and 2", x, 3, 0, 1);
        x.leave(3, 0);
        rightIs("0, 2 and 3 are more", x, 3, 0, 2, 3);
    }

    static void p00_rightHasNoneThatQuarrelsWithItself() {
        ShipSkins x = resting();
        x.cleaned(0, 0, 5);
        x.look(0, 0, 6, 9, 100, 0);
        rightIs("it alone", x, 0);
        x.look(0, 0, 5, 9, 1, 0);
        rightIs("with a good one", x, 1, 1);
    }

    static void p00_boundNotAboveWEndsIt() {
        proofIs("the bound is W", oneAgainstOne(), "[0,1;]");
        proofIs("the bound is 1 above W", path(1, 1, 1, 1), "(0[][1,3;])");
        ShipSkins x = path(1, 1, 1, 1);
        x.leave(2, 1);
        proofIs("0 or 1, and 3: the bound is W", x, "[0,1;]");
    }

    private static ShipSkins oneAgainstOne() {
        ShipSkins x = resting();
        x.look(0, 0, 0, 0, 1, 0);
        x.look(0, 0, 9, 9, 1, 0);
        return x;
    }

    static void p00_boundHasTheWorthOfAllKept() {
        ShipSkins x = path(1, 1, 1, 1);
        x.cleaned(0, 50, 1000);
        x.look(0, 50, 0, 10, 1, 0);
        x.look(0, 50, 25, 40, 1, 0);
        x.look(0, 50, 15, 30, 1, 0);
        x.look(0, 50, 5, 20, 1, 0);
        proofIs("two such rows", x, "(0(4[][5,7;])(4[1,3;][1,3;5,7;]))");
    }

    static void p00_groupsOfOneAreNotWritten() {
        proofIs("no log", resting(), "[]");
        ShipSkins x = resting();
        for (int n = 0; n < 24; n++) x.look(0, 0, 5, 5, 1, 0);
        proofIs("24 without quarrel", x, "[]");
    }

    static void p00_groupsOfTwoAreWritten() {
        proofIs("0 and 1", oneAgainstOne(), "[0,1;]");
        ShipSkins x = oneAgainstOne();
        x.look(0, 0, 0, 9, 1, 0);
        proofIs("0 and 1, and 2 alone", x, "[0,1;]");
    }

    static void p00_aGroupOfAll() {
        ShipSkins x = resting();
        StringBuilder want = new StringBuilder("[");
        for (int n = 0; n < 24; n++) {
            x.look(0, 0, n, n, 1, 0);
            want.append(n == 0 ? "" : ",").append(n);
        }
        proofIs("24 that quarrel with one another", x, want + ";]");
    }

    static void p00_eachHigherOneJoinsThatQuarrelsWithAllInIt() {
        ShipSkins x = resting();
        x.look(0, 0, 0, 10, 1, 0);
        x.look(0, 0, 20, 30, 1, 0);
        x.look(0, 0, 25, 40, 1, 0);
        x.look(0, 0, 12, 15, 1, 0);
        proofIs("2 does not quarrel with 1, 3 does with both", x, "[0,1,3;]");
    }

    static void p00_theOneWithTheMostQuarrelsOfAlikeOnesTheLowest() {
        proofIs("0 and 1 have two each", path(1, 1, 1, 1), "(0[][1,3;])");
        ShipSkins x = resting();
        x.look(0, 0, 5, 20, 1, 0);
        x.look(0, 0, 15, 30, 1, 0);
        x.look(0, 0, 0, 10, 1, 0);
        x.look(0, 0, 25, 40, 1, 0);
        due("quarrels 0-3, 1-2, 2-3", x.quarrels(0, 0, -1), 3);
        proofIs("2 and 3 have two each, but groups are enough", x, "[0,3;1,2;]");
    }

    static void p00_noNumberIsLedBy0() {
        ShipSkins x = resting();
        for (int n = 0; n < 9; n++) x.look(0, 0, 0, 1000, 1, 0);
        for (int n = 9; n < 12; n++) x.look(0, 0, n, n, 1, 0);
        proofIs("9, 10 and 11", x, "[9,10,11;]");
    }

    static void p00_oneThatQuarrelsWithItselfIsNotOpen() {
        ShipSkins x = oneAgainstOne();
        x.cleaned(0, 50, 5);
        x.look(0, 50, 6, 6, 100, 0);
        proofIs("0 and 1 alone", x, "[0,1;]");
    }

    static void p19_knownIs0To119() {
        asks("known", Edges::some, (x, n) -> x.right(0, n), 0, 119, ends(9, 14));
    }

    static void p19_noSuchShip() {
        asks("ship", Edges::some, (x, n) -> x.right(n, 119), 0, 1, ends(14, 2));
        due("of none", new ShipSkins().right(0, 0), -1);
    }

    static void p19_theKnownDayItself() {
        due("the day ahead", some().right(0, 59), 9);
        due("the day", some().right(0, 60), 14);
    }

    static void p19_ofNoLogs() {
        rightIs("no log", resting(), 0);
        ShipSkins x = resting();
        x.look(0, 0, 5, 5, 9, 119);
        due("none known", x.right(0, 118), 0);
        due("it is not in it", x.isRight(0), 0);
    }

    static void p19_noneIsLeftWithoutACurve() {
        ShipSkins x = resting();
        x.look(0, 0, 5, 5, 9, 0);
        x.table(0, 0, 9, 9);
        rightIs("no curve: all quarrel with themselves", x, 0);
    }

    static void p19_allOf24() {
        ShipSkins x = resting();
        for (int n = 0; n < 24; n++) x.look(0, n, 5, 5, 100, 0);
        due("as much worth as can be", x.right(0, 0), 2400);
        for (int n = 0; n < 24; n++) due("log " + n, x.isRight(n), 1);
    }

    static void p19_aRefusedOneLeavesTheLatest() {
        ShipSkins x = some();
        x.right(1, 119);
        for (int ship : new int[] {-1, 2}) due("ship " + ship, x.right(ship, 0), -1);
        for (int known : new int[] {-1, 120}) due("known " + known, x.right(0, known), -1);
        due("log 3 is in the latest", x.isRight(3), 1);
        due("log 0 is not", x.isRight(0), 0);
    }

    static void p20_noSuchLog() {
        asks("log", Edges::some, (x, n) -> x.isRight(n), 0, 5, ends(1, 1));
        due("one that is not", some().isRight(1), 0);
        due("the last of 24", full().isRight(23), 0);
        due("a 25th", full().isRight(24), -1);
    }

    static void p20_noneAheadOfAny() {
        ShipSkins x = oneAgainstOne();
        due("ahead of any", x.isRight(0), -1);
        x.prove(0, 0);
        due("a proof is none", x.isRight(0), -1);
        x.right(1, 0);
        due("a refused one is none", x.isRight(0), -1);
        x.right(0, 0);
        due("the first", x.isRight(0), 1);
    }

    static void p20_aLogToldBehindIt() {
        ShipSkins x = oneAgainstOne();
        x.right(0, 0);
        due("no such log", x.isRight(2), -1);
        x.look(0, 0, 0, 0, 1, 0);
        due("told behind it", x.isRight(2), 0);
    }

    static void p20_theLatestAlone() {
        ShipSkins x = some();
        x.right(1, 119);
        due("of the one ship", x.isRight(3), 1);
        x.right(0, 119);
        due("of the other ship", x.isRight(3), 0);
        due("of the other ship", x.isRight(0), 1);
        x.leave(0, 1);
        due("it stays as it was", x.isRight(0), 1);
    }

    static void p21_knownIs0To119() {
        asks("known", Edges::some, (x, n) -> x.prove(0, n), 0, 119, ends(2, 10));
    }

    static void p21_noSuchShip() {
        asks("ship", Edges::some, (x, n) -> x.prove(n, 119), 0, 1, ends(10, 2));
        due("of none", new ShipSkins().prove(0, 0), -1);
    }

    static void p21_theKnownDayItself() {
        due("the day ahead", some().prove(0, 49), 2);
        due("the day", some().prove(0, 50), 6);
    }

    static void p21_2000BytesAtMost() {
        ShipSkins x = tangled(PromisesTest.OF_2000);
        due("2000 bytes", x.prove(0, 1), 2000);
        due("they are counted", x.count(6), 2000);
        due("the last", x.proof(1999), ')');
        due("no more", x.proof(2000), -1);
    }

    static void p21_moreThan2000IsNoneAndTheLatestStays() {
        ShipSkins x = tangled(PromisesTest.OF_2001);
        due("2001 bytes, ahead of any", x.prove(0, 1), -1);
        due("there is none", x.count(6), 0);
        due("there is no byte", x.proof(0), -1);
        proofAsKnownOn0(x);
        due("2001 bytes", x.prove(0, 1), -1);
        same("the latest", proofOf(x), "(1[7,9;][3,5;7,9;])");
        barren("2001 bytes", () -> proofAsKnownOn0(tangled(PromisesTest.OF_2001)), y -> y.prove(0, 1), -1);
    }

    private static ShipSkins proofAsKnownOn0(ShipSkins x) {
        due("a short one", x.prove(0, 0), 19);
        return x;
    }

    static void p21_theLongestAndThenTheShortest() {
        ShipSkins x = tangled(PromisesTest.OF_2000);
        x.prove(0, 1);
        for (int n = 0; n < 24; n++) x.leave(n, 1);
        due("of none", x.prove(0, 1), 2);
        same("it", proofOf(x), "[]");
        due("nothing is left of the longest", x.proof(2), -1);
    }

    static void p21_proveLeavesTheLatestRight() {
        ShipSkins x = some();
        x.right(1, 119);
        x.prove(0, 119);
        due("log 3 is still in it", x.isRight(3), 1);
    }

    static void p22_indexIs0ToTheLast() {
        asks("i", Edges::some, (x, n) -> x.proof(n), 0, 9, ends('[', ']'));
    }

    static void p22_noneAheadOfAny() {
        due("of a new object", new ShipSkins().proof(0), -1);
        due("ahead of any", oneAgainstOne().proof(0), -1);
    }

    static void p22_theLatestAlone() {
        ShipSkins x = path(1, 1, 1, 1);
        x.prove(0, 0);
        same("the first", proofOf(x), "(0[][1,3;])");
        x.leave(0, 1);
        same("it stays", proofOf(x), "(0[][1,3;])");
        x.prove(0, 0);
        same("the second", proofOf(x), "[1,3;]");
        due("nothing is left of the first", x.proof(6), -1);
    }


    static void p00_boundHasTheLastLogToo() {
        ShipSkins x = resting();
        x.look(0, 0, 0, 10, 1, 0);
        x.look(0, 0, 25, 40, 1, 0);
        x.look(0, 0, 15, 30, 1, 0);
        for (int n = 3; n < 23; n++) x.leave(x.look(0, 0, 500, 500, 1, 0), 1);
        due("the last", x.look(0, 0, 5, 20, 1, 0), 23);
        proofIs("log 23 is in a group of its own at first", x, "(0[][1,23;])");
    }

    static void p00_rightOfTheLastLog() {
        ShipSkins x = resting();
        for (int n = 0; n < 22; n++) x.leave(x.look(0, 0, 500, 500, 100, 0), 1);
        x.look(0, 0, 0, 0, 7, 0);
        due("the last", x.look(0, 0, 9, 9, 8, 0), 23);
        rightIs("it is worth more", x, 8, 23);
        proofIs("22 and 23", x, "[22,23;]");
        ShipSkins y = resting();
        for (int n = 0; n < 22; n++) y.leave(y.look(0, 0, 500, 500, 100, 0), 1);
        y.look(0, 0, 0, 0, 8, 0);
        y.look(0, 0, 9, 9, 8, 0);
        rightIs("it is worth as much", y, 8, 22);
        ShipSkins z = resting();
        z.look(0, 0, 0, 10, 5, 0);
        z.look(0, 0, 25, 40, 3, 0);
        z.look(0, 0, 15, 30, 3, 0);
        for (int n = 3; n < 23; n++) z.leave(z.look(0, 0, 500, 500, 100, 0), 1);
        z.look(0, 0, 5, 20, 2, 0);
        rightIs("0 and 23 against 1 and 2", z, 7, 0, 23);
    }

    static void p00_moreLogsCountMoreThanLowerOnes() {
        ShipSkins x = resting();
        for (int n = 0; n < 2; n++) x.look(0, 0, 0, 0, 3, 0);
        for (int n = 2; n < 5; n++) x.look(0, 0, 9, 9, 2, 0);
        rightIs("0 and 1 against 2, 3 and 4", x, 6, 2, 3, 4);
        ShipSkins y = resting();
        for (int n = 0; n < 11; n++) y.look(0, 0, 0, 0, 12, 0);
        for (int n = 11; n < 23; n++) y.look(0, 0, 9, 9, 11, 0);
        rightIs("eleven of 12 against twelve of 11", y, 132, 11, 12, 13, 14, 15, 16, 17, 18, 19, 20, 21, 22);
    }

    static void p00_rightOfTheLastTwoLogs() {
        ShipSkins x = resting();
        x.look(0, 0, 90, 110, 9, 0);
        x.look(0, 0, 0, 10, 1, 0);
        x.look(0, 0, 5, 15, 1, 0);
        for (int n = 3; n < 22; n++) x.leave(x.look(0, 0, 500, 500, 100, 0), 1);
        x.look(0, 0, 0, 100, 5, 0);
        x.look(0, 0, 105, 120, 5, 0);
        rightIs("0 and 22 against 0 and 23, which has the most quarrels", x, 14, 0, 22);
        x.leave(22, 1);
        rightIs("without 22", x, 14, 0, 23);
    }

    /** From, how far, and worth of looks on day 0 whose proof parts one log after another, until two are left. */
    private static final int[] DEEP = {
        385, 21, 69, 31, 6, 61, 601, 180, 51, 394, 15, 22, 387, 5, 84, 453, 70, 59, 822, 67, 34, 957, 12, 5,
        111, 124, 83, 341, 39, 90, 617, 91, 26, 45, 121, 45, 409, 89, 49, 331, 4, 50, 502, 4, 48, 302, 74, 75,
        58, 40, 46, 233, 20, 82, 719, 42, 81, 275, 22, 57, 431, 0, 60, 805, 101, 16, 927, 8, 27, 912, 45, 89};

    static void p00_aProofAsDeepAsCanBe() {
        ShipSkins x = resting();
        for (int i = 0; i < DEEP.length; i += 3) x.look(0, 0, DEEP[i], DEEP[i] + DEEP[i + 1], DEEP[i + 2], 0);
        int[] picks = {1, 19, 4, 0, 3, 6, 21, 7, 9, 10, 2, 18, 13, 15, 14, 5, 12, 20, 16, 11, 8, 17};
        StringBuilder want = new StringBuilder();
        for (int pick : picks) want.append('(').append(pick).append("[]");
        proofIs("22 logs are picked", x, want + "[]" + ")".repeat(22));
        rightIs("8 and 17 are worth as much as 9 and 15, which are tried first", x, 165, 8, 17);
        checks(x, proofOf(x), 165, -1);
        checks(x, proofOf(x), 164, want.indexOf("(9[]") + 3);
    }
}
