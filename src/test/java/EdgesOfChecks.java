/** Edges of promises 23 to 26, and of term IV: the tape, and how a proof on it is checked. */
final class EdgesOfChecks extends Edges {
    private static final int BLANKS = 0x20202020;

    /** Looks on day 0 of which 0-1, 0-2 and 1-3 quarrel, each of worth 1. */
    private static ShipSkins path() {
        ShipSkins x = resting();
        x.look(0, 0, 0, 10, 1, 0);
        x.look(0, 0, 25, 40, 1, 0);
        x.look(0, 0, 15, 30, 1, 0);
        x.look(0, 0, 5, 20, 1, 0);
        return x;
    }

    /** As many logs as there can be, of worth 1, without quarrel. */
    private static ShipSkins friends() {
        ShipSkins x = resting();
        for (int n = 0; n < 24; n++) x.look(0, 0, 5, 5, 1, 0);
        return x;
    }

    /** As many logs as there can be, of worth 1, each of which quarrels with each other. */
    private static ShipSkins foes() {
        ShipSkins x = resting();
        for (int n = 0; n < 24; n++) x.look(0, 0, n, n, 1, 0);
        return x;
    }

    private static String nestAhead(int deep) {
        StringBuilder text = new StringBuilder();
        for (int i = 0; i < deep; i++) text.append('(').append(i);
        return text + "[]" + "[])".repeat(deep);
    }

    private static String nestBehind(int deep) {
        StringBuilder text = new StringBuilder();
        for (int i = 0; i < deep; i++) text.append('(').append(i).append("[]");
        return text + "[]" + ")".repeat(deep);
    }

    static void p00_rowsOfDigitsAreAsLongAsCanBe() {
        checks(friends(), "[12;]", 24, -1);
        checks(friends(), "[1 2;]", 24, 3);
        checks(friends(), "[1;2;]", 24, -1);
        checks(friends(), "[012;]", 24, -1);
        checks(friends(), "[23;]", 24, -1);
        checks(friends(), "[24;]", 24, 1);
        checks(friends(), "[100;]", 24, 1);
        checks(friends(), "[" + "0".repeat(390) + "7;]", 24, -1);
        checks(friends(), "[" + "9".repeat(390) + ";]", 24, 1);
        checks(friends(), "[4294967296;]", 24, 1);
        checks(friends(), "[4294967297;]", 24, 1);
        checks(friends(), "[18446744073709551616;]", 24, 1);
    }

    static void p00_blanksBetweenTokens() {
        checks(path(), "(0[][1,3;])", 2, -1);
        checks(path(), "  (  0  [  ]  [  1  ,  3  ;  ]  )  ", 2, -1);
        checks(path(), "[]" + " ".repeat(398), 4, -1);
        checks(path(), " ".repeat(398) + "[]", 4, -1);
    }

    static void p00_onlyByte32IsABlank() {
        for (int sign : new int[] {0, 9, 10, 13, 31, 33, 127, 128, 160, 255}) {
            checks(path(), (char) sign + "[]", 4, 0);
            checks(path(), "[" + (char) sign + "]", 4, 1);
            checks(path(), "[]" + (char) sign, 4, 2);
        }
    }

    static void p00_onlyDigitsAreDigits() {
        for (int sign : new int[] {'0' - 1, '9' + 1, '0' + 128, '0' + 16}) {
            checks(path(), "[" + (char) sign + ";]", 4, 1);
            checks(path(), "(" + (char) sign + "[][])", 4, 1);
        }
        checks(path(), "[0;]", 4, -1);
        checks(friends(), "[9;]", 24, -1);
    }

    static void p00_bracketsWithinOneAnother24AtMost() {
        checks(friends(), nestAhead(23), 24, -1);
        checks(friends(), nestAhead(24), 24, nestAhead(24).indexOf('['));
        checks(friends(), nestBehind(23), 24, -1);
        checks(friends(), nestBehind(24), 24, nestBehind(24).indexOf("(23") + 3);
    }

    static void p00_bracketsBesideOneAnother() {
        String text = "(1" + "(2[][])".repeat(2) + ")";
        checks(friends(), "(0" + text + text.replace('2', '3') + ")", 24, -1);
        due("brackets of the deepest one that is taken", nestAhead(23).replaceAll("[^(\\[]", "").length(), 47);
    }

    static void p00_aLogIsOneThatIsOpenThere() {
        checks(path(), "(0[0;][])", 9, 3);
        checks(path(), "(0[1;][])", 9, 3);
        checks(path(), "(0[3;][])", 9, -1);
        checks(path(), "(0[][0;])", 9, 5);
        checks(path(), "(0[][1;])", 9, -1);
        checks(path(), "(0(0[][])[])", 9, 3);
        checks(path(), "(0(2[][])[])", 9, 3);
        checks(path(), "(0[](0[][]))", 9, 5);
        checks(path(), "(4[][])", 9, 1);
        checks(path(), "[4;]", 9, 1);
    }

    static void p00_aLogThatDoesNotCountIsNotOpen() {
        ShipSkins x = path();
        x.ship(0);
        x.look(1, 0, 0, 0, 1, 0);
        x.cleaned(0, 50, 5);
        x.look(0, 50, 6, 6, 1, 0);
        x.look(0, 50, 0, 6, 1, 0);
        checks(x, "[4;]", 99, 1);
        checks(x, "[5;]", 99, 1);
        checks(x, "[6;]", 99, -1);
        x.leave(6, 1);
        checks(x, "[6;]", 99, 1);
        x.leave(6, 0);
        x.alter(6, 8);
        checks(x, "[6;]", 99, 1);
    }

    static void p00_noneTwice() {
        checks(path(), "[0;0;]", 9, 3);
        checks(path(), "[0,0;]", 9, 3);
        checks(path(), "[0,1;1;]", 9, 5);
        checks(path(), "[0;1;2;3;]", 9, -1);
        checks(path(), "[0;1;2;3;0;]", 9, 9);
        checks(path(), "(0[3;][3;])", 9, -1);
    }

    static void p00_behindACommaOneThatQuarrelsWithAllAhead() {
        checks(path(), "[0,1;]", 9, -1);
        checks(path(), "[1,0;]", 9, -1);
        checks(path(), "[0,3;]", 9, 3);
        checks(path(), "[0,1,2;]", 9, 5);
        checks(path(), "[0,1,3;]", 9, 5);
        checks(foes(), "[0,1,2;]", 24, -1);
    }

    static void p00_groupsOfAll() {
        StringBuilder alone = new StringBuilder("[");
        StringBuilder together = new StringBuilder("[23");
        for (int n = 0; n < 24; n++) alone.append(n).append(';');
        for (int n = 22; n >= 0; n--) together.append(',').append(n);
        checks(friends(), alone + "]", 24, -1);
        checks(friends(), alone + "]", 23, alone.length());
        checks(friends(), alone + "0;]", 24, alone.length());
        checks(foes(), together + ";]", 1, -1);
        checks(foes(), together + ";]", 0, together.length() + 1);
        checks(foes(), together + ",0;]", 24, together.length() + 1);
    }

    static void p00_notAboveW() {
        checks(path(), "[]", 4, -1);
        checks(path(), "[]", 3, 1);
        checks(path(), "[0,1;]", 3, -1);
        checks(path(), "[0,1;]", 2, 5);
        checks(path(), "[0,2;1,3;]", 2, -1);
        checks(path(), "[0,2;1,3;]", 1, 9);
        checks(path(), "(0[][1,3;])", 2, -1);
        checks(path(), "(0[][1,3;])", 1, 3);
        checks(path(), "(0[][])", 2, 5);
        checks(path(), "(0[][])", 3, -1);
    }

    static void p00_theGreatestWorthOfEachGroup() {
        ShipSkins x = resting();
        x.look(0, 0, 0, 0, 5, 0);
        x.look(0, 0, 1, 1, 100, 0);
        x.look(0, 0, 2, 2, 7, 0);
        checks(x, "[0,1,2;]", 100, -1);
        checks(x, "[0,1,2;]", 99, 7);
        checks(x, "[0,2;]", 107, -1);
        checks(x, "[0,2;]", 106, 5);
        checks(x, "(1[][0,2;])", 100, -1);
        checks(x, "(1[][0,2;])", 99, 3);
    }

    static void p00_faultAtTheEndIsTheTapesLength() {
        checks(path(), "", 9, 0);
        checks(path(), "    ", 9, 4);
        checks(path(), " ".repeat(400), 9, 400);
        checks(path(), "(", 9, 1);
        checks(path(), "(0", 9, 2);
        checks(path(), "(0  ", 9, 4);
        checks(path(), "(0[", 9, 3);
        checks(path(), "(0[]", 9, 4);
        checks(path(), "(0[][]", 9, 6);
        checks(path(), "[", 9, 1);
        checks(path(), "[0", 9, 2);
        checks(path(), "[0,", 9, 3);
        checks(path(), "[0,1", 9, 4);
        checks(path(), "[0,1;", 9, 5);
        checks(path(), "[" + " ".repeat(399), 9, 400);
    }

    static void p00_faultIsTheFirstTokenThatCantGoOn() {
        checks(path(), "x", 9, 0);
        checks(path(), "0", 9, 0);
        checks(path(), "]", 9, 0);
        checks(path(), ")", 9, 0);
        checks(path(), "()", 9, 1);
        checks(path(), "((", 9, 1);
        checks(path(), "([", 9, 1);
        checks(path(), "(0 0", 9, 3);
        checks(path(), "(0)", 9, 2);
        checks(path(), "(0[])", 9, 4);
        checks(path(), "(0[][][])", 9, 6);
        checks(path(), "[0]", 9, 2);
        checks(path(), "[;]", 9, 1);
        checks(path(), "[,]", 9, 1);
        checks(path(), "[(]", 9, 1);
        checks(path(), "[0;;]", 9, 3);
        checks(path(), "[0,;]", 9, 3);
        checks(path(), "[0,,1;]", 9, 3);
        checks(path(), "[0,1]", 9, 4);
    }

    static void p00_faultAtTheEndOfAGroup() {
        for (int w : new int[] {9, 2400, Integer.MAX_VALUE}) {
            checks(path(), "[0,]", w, 3);
            checks(path(), "[0,1;2,]", w, 7);
            checks(path(), "[0,1,]", w, 5);
            checks(path(), "[0 ]", w, 3);
            checks(path(), "[0;,]", w, 3);
            checks(path(), "[4]", w, 1);
            checks(path(), "[0;0]", w, 3);
            checks(path(), "[0)", w, 2);
            checks(path(), "[0;)", w, 3);
            checks(path(), "(0[][0,]", w, 5);
        }
    }

    static void p00_faultBehindAWholeProof() {
        checks(path(), "[]]", 9, 2);
        checks(path(), "[] 0", 9, 3);
        checks(path(), "[][]", 9, 2);
        checks(path(), "(0[][]))", 9, 7);
        checks(path(), "[]" + " ".repeat(397) + "x", 9, 399);
    }

    static void p23_400BytesAtMost() {
        ShipSkins x = resting();
        for (int n = 1; n <= 20; n++) due("feed " + n, x.feed(BLANKS, BLANKS, BLANKS, BLANKS, BLANKS), 20 * n);
        due("a 21st", x.feed(0, 0, 0, 0, 0), -1);
        due("it has as many", x.count(5), 400);
        due("they are as they were: the end's place", x.check(0, 0, 0), 0);
        due("they are as they were: the end's place", x.fault(), 400);
        barren("of a full tape", Edges::full, y -> y.feed(BLANKS, BLANKS, BLANKS, BLANKS, BLANKS), -1);
    }

    static void p23_just400AndJustMore() {
        ShipSkins x = full();
        x.end(381);
        due("401", x.feed(BLANKS, BLANKS, BLANKS, BLANKS, BLANKS), -1);
        due("it has as many", x.count(5), 381);
        x.end(380);
        due("400", x.feed(BLANKS, BLANKS, BLANKS, BLANKS, BLANKS), 400);
        x.end(399);
        due("419", x.feed(BLANKS, BLANKS, BLANKS, BLANKS, BLANKS), -1);
    }

    static void p23_theHighestByteFirst() {
        for (int place = 0; place < 20; place++) {
            ShipSkins x = resting();
            int[] five = {BLANKS, BLANKS, BLANKS, BLANKS, BLANKS};
            five[place / 4] ^= 'A' << 8 * (3 - place % 4);
            due("feed", x.feed(five[0], five[1], five[2], five[3], five[4]), 20);
            x.check(0, 0, 0);
            due("the place of the byte that is no blank", x.fault(), place);
        }
    }

    static void p23_anyNumber() {
        int[] numbers = {Integer.MIN_VALUE, Integer.MAX_VALUE, -1, 0, 1};
        int[] faults = {0, 0, 0, 0, 0};
        for (int i = 0; i < numbers.length; i++) {
            ShipSkins x = resting();
            int n = numbers[i];
            due("feed of " + n, x.feed(n, n, n, n, n), 20);
            due("no proof", x.check(0, 0, 0), 0);
            due("its first byte is the fault", x.fault(), faults[i]);
        }
        ShipSkins x = resting();
        due("bytes 0x80 and more are no blanks", x.feed(0xA0202020, BLANKS, BLANKS, BLANKS, BLANKS), 20);
        due("no proof", x.check(0, 0, 0), 0);
        due("by the first", x.fault(), 0);
    }

    static void p23_behindWhatItHas() {
        ShipSkins x = path();
        put(x, "(0[][1");
        due("26", x.feed(',' << 24 | '3' << 16 | ';' << 8 | ']', ')' << 24 | 0x202020, BLANKS, BLANKS, BLANKS), 26);
        due("it is a proof", x.check(0, 0, 2), 1);
    }

    static void p23_emptyBehindACheck() {
        ShipSkins x = full();
        x.check(0, 0, 0);
        due("the first 20", x.feed(0, 0, 0, 0, 0), 20);
    }

    static void p24_from0ToWhatItHas() {
        asks("n", Edges::some, (x, n) -> x.end(n), 0, 6, ends(0, 6));
        due("of a full one", full().end(400), 400);
        barren("more than a full one", Edges::full, x -> x.end(401), -1);
    }

    static void p24_ofAnEmptyTape() {
        ShipSkins x = new ShipSkins();
        due("0", x.end(0), 0);
        due("1", x.end(1), -1);
        due("-1", x.end(-1), -1);
    }

    static void p24_itsFirstBytesAlone() {
        ShipSkins x = path();
        put(x, "[] x");
        due("no more than the first two", x.end(2), 2);
        due("they don't come again", x.end(3), -1);
        due("count", x.count(5), 2);
        due("it is a proof", x.check(0, 0, 4), 1);
        put(x, "[] x");
        due("all", x.end(4), 4);
        due("no proof", x.check(0, 0, 4), 0);
        due("by the last", x.fault(), 3);
        put(x, "x[]");
        due("none", x.end(0), 0);
        due("empty", x.check(0, 0, 4), 0);
        due("by the end", x.fault(), 0);
    }

    static void p25_knownIs0To119() {
        due("known 0", some().check(0, 0, 18), 0);
        due("known 119", some().check(0, 119, 18), 1);
        for (int known : new int[] {-1, 120, Integer.MIN_VALUE, Integer.MAX_VALUE}) emptied("known " + known, 0, known);
    }

    static void p25_noSuchShip() {
        due("ship 0", some().check(0, 119, 18), 1);
        due("ship 1", some().check(1, 119, 18), 0);
        for (int ship : new int[] {-1, 2, Integer.MIN_VALUE, Integer.MAX_VALUE}) emptied("ship " + ship, ship, 119);
    }

    /** A check that can't be asked leaves all but the tape, FAULT and status() among it. */
    private static void emptied(String what, int ship, int known) {
        ShipSkins x = some();
        ShipSkins y = some();
        due(what, x.check(ship, known, 18), -1);
        due(what + ": bytes of the tape", x.count(5), 0);
        due(what + ": the fault stays", x.fault(), 3);
        due(what + ": status", x.status(), 0);
        y.end(0);
        same("all behind " + what, seen(x), seen(y));
    }

    static void p25_theKnownDayItself() {
        due("log 2 is not known", some().check(0, 49, 99), 0);
        due("log 2 is known", some().check(0, 50, 99), 1);
    }

    static void p25_emptyBehindEachAnswer() {
        for (int w : new int[] {18, 17}) {
            ShipSkins x = some();
            due("for " + w, x.check(0, 119, w), w - 17);
            due("bytes of the tape", x.count(5), 0);
            due("an empty one is no proof", x.check(0, 119, 99), 0);
            due("its fault", x.fault(), 0);
        }
        ShipSkins x = full();
        x.check(0, 119, 0);
        due("of a full one", x.count(5), 0);
    }

    static void p25_ofAnEmptyTape() {
        ShipSkins x = resting();
        due("empty", x.check(0, 0, Integer.MAX_VALUE), 0);
        due("its fault", x.fault(), 0);
    }

    static void p25_ofAFullTape() {
        checks(path(), "(0[]" + " ".repeat(389) + "[1,3;])", 2, -1);
        checks(path(), "(0[]" + " ".repeat(390) + "[1,3;]", 2, 400);
    }

    static void p25_anyW() {
        checks(path(), "[]", Integer.MAX_VALUE, -1);
        checks(path(), "[]", Integer.MIN_VALUE, 1);
        checks(path(), "[]", 0, 1);
        checks(path(), "[]", -1, 1);
        checks(resting(), "[]", 0, -1);
        checks(resting(), "[]", -1, 1);
        checks(resting(), "[]", Integer.MIN_VALUE, 1);
        ShipSkins x = resting();
        for (int n = 0; n < 24; n++) x.look(0, 0, 5, 5, 100, 0);
        checks(x, "[]", 2400, -1);
        checks(x, "[]", 2399, 1);
    }

    static void p25_changesNothingButTapeAndFault() {
        ShipSkins x = some();
        ShipSkins y = some();
        x.check(0, 119, 18);
        put(x, "(0[");
        x.check(0, 119, 9);
        put(x, "[0,2;]");
        same("all behind", seen(x), seen(y));
        due("status", some().status(), 0);
        ShipSkins z = some();
        z.ship(-1);
        z.check(0, 119, 18);
        due("status", z.status(), -1);
    }

    static void p26_noneAheadOfAny() {
        ShipSkins x = path();
        due("ahead of any", x.fault(), -1);
        x.check(1, 0, 0);
        due("one that could not read", x.fault(), -1);
    }

    static void p26_noneBehindAProof() {
        ShipSkins x = path();
        checks(x, "[0,", 9, 3);
        checks(x, "[]", 9, -1);
        due("again", x.fault(), -1);
    }

    static void p26_ofTheLatestThatRead() {
        ShipSkins x = path();
        checks(x, "[0,", 9, 3);
        put(x, "[]");
        due("feeding leaves it", x.fault(), 3);
        x.check(0, 120, 9);
        due("one that could not read leaves it", x.fault(), 3);
        x.check(1, 0, 9);
        due("one that could not read leaves it", x.fault(), 3);
        checks(x, "x", 9, 0);
    }

    static void p26_theFirstAndTheLastPlace() {
        checks(path(), "x", 9, 0);
        checks(path(), " ".repeat(399) + "x", 9, 399);
        checks(path(), " ".repeat(400), 9, 400);
    }

    static void p24_aNumberThatIsCutShort() {
        ShipSkins x = friends();
        put(x, "[12;]");
        x.end(2);
        due("no proof", x.check(0, 0, 24), 0);
        due("1 is open, and then it ends", x.fault(), 2);
        put(x, "[12;]");
        x.end(3);
        due("no proof", x.check(0, 0, 24), 0);
        due("12 is open, and then it ends", x.fault(), 3);
    }

    static void p25_aNumberAtTheEndOfAFullTape() {
        checks(friends(), "[" + " ".repeat(398) + "1", 24, 400);
        checks(friends(), "[" + " ".repeat(397) + "24", 24, 398);
        checks(friends(), "[" + "0".repeat(399), 24, 400);
        checks(friends(), "9".repeat(400), 24, 0);
    }
}
