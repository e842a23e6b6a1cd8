/** The edges that promises 13 to 20 name, and the Terms that they use: bars, better, bound, envy, votes. */
final class DrawingBoundsTest extends Checks {
    private static final State[] NO_GROUND = State.WITHOUT_GROUND;
    private static final State[] GROUND = State.WITH_GROUND;
    private static final String FARS = SIX.replace("worth 1", "worth far");
    private static final int[] NO_CELLS = {-1, 6, 64, NO_NUMBER, HIGHEST};
    private static final int[] NO_OWNERS = {-1, 2, 6, NO_NUMBER, HIGHEST};

    public static void main(String[] args) {
        playSentences(DrawingBoundsTest.class);
    }

    private static void dueBars(WholeFields x, String what, int sort, int at) {
        due("bars(): " + what, x.bars(), sort);
        due("trouble(): " + what, x.trouble(), 0);
        due("barred(): " + what, x.barred(), at);
    }

    private static WholeFields wide2(String rows) {
        WholeFields x = drawn(TWO, rows);
        x.set(0, 2);
        return x;
    }

    // ---- Terms II: the bars

    @Sentence(of = "II", says = "BARS: the first of these:")
    private static void iiFirstOfTheBars() {
        // All four at once; each is mended in turn.
        WholeFields x = wide2("abaa. bbaaa bbaaa");
        x.keep(14, 1);
        dueBars(x, "all four", 1, 4);
        x.draw(4, 1);
        dueBars(x, "three", 2, 14);
        x.keep(14, 0);
        dueBars(x, "two", 3, 0);
        x.draw(0, 1);
        dueBars(x, "torn still", 3, 1);
        x.draw(4, 0);
        dueBars(x, "none", 0, -2);
        x.draw(0, 0);
        x.draw(5, 0);
        dueBars(x, "torn", 3, 0);
        x.draw(1, 0);
        dueBars(x, "the fourth alone", 4, 0);
    }

    @Sentence(of = "II", says = "1 a CELL without OWNER (a WATER one needs none);")
    private static void iiCellWithoutOwner() {
        WholeFields x = drawn(TWO, ".");
        dueBars(x, "the only cell", 1, 0);
        x.cell(0, 5, 0, true);
        dueBars(x, "water alone", 0, -2);
        x.draw(0, 1);
        dueBars(x, "a water cell may have one", 0, -2);
        x.cell(0, 5, 0, false);
        dueBars(x, "with an owner", 0, -2);
        x = with(TWO, 8, 8);
        for (int c = 0; c < 64; c++) {
            dueBars(x, "the cells ahead are drawn", 1, c);
            x.draw(c, 0);
        }
        dueBars(x, "all are drawn", 0, -2);
    }

    @Sentence(of = "II", says = "2 a KEPT CELL that is not its OWNER's;")
    private static void iiKeptCellOfAnother() {
        WholeFields x = drawn(TWO, "aaa aaa");
        for (int c : new int[] {0, 5}) {
            x.keep(c, 1);
            dueBars(x, "kept by another", 2, c);
            x.keep(c, 0);
            dueBars(x, "kept by its own", 0, -2);
            x.keep(c, -1);
            dueBars(x, "not kept", 0, -2);
        }
        x.keep(3, 1);
        x.cell(3, 5, 0, true);
        x.draw(3, -1);
        dueBars(x, "a kept water cell of no one", 2, 3);
        x.draw(3, 1);
        dueBars(x, "a kept water cell of its owner", 0, -2);
        x = drawn(SIX, "ab");
        x.keep(1, 5);
        dueBars(x, "kept by the last owner", 2, 1);
        x.draw(1, 5);
        dueBars(x, "the last owner's", 0, -2);
    }

    @Sentence(of = "II", says = "3 a FIELD whose CELLS don't hang together by sides;")
    private static void iiFieldThatIsTorn() {
        dueBars(drawn(TWO, "aba"), "two parts", 3, 0);
        dueBars(drawn(TWO, "aab bbb baa"), "two parts by a row between", 3, 0);
        dueBars(drawn(TWO, "abb bbb bba"), "the ends of the ground", 3, 0);
        dueBars(drawn(TWO, "ab ba"), "a corner alone", 3, 0);
        dueBars(drawn(TWO, "aab baa"), "no hanging together over the rows' ends", 3, 1);
        dueBars(drawn(TWO, "baa aab"), "nor from the one to the other", 3, 1);
        dueBars(drawn(TWO, "aaaaaaab baaaaaaa"), "nor in the widest ground", 3, 1);
        dueBars(drawn(TWO, "b a b"), "nor in the narrowest", 3, 1);
        dueBars(drawn(TWO, "aa"), "a field of none hangs together", 0, -2);
    }

    @Sentence(of = "II", says = "3 a FIELD whose CELLS don't hang together by sides;")
    private static void iiLongestFieldThatHangsTogether() {
        // One way of 36 cells winds through the ground from the first cell on; all else is water.
        WholeFields x = drawn(TWO, "aaaaaaaa .......a aaaaaaaa a....... aaaaaaaa .......a aaaaaaaa a.......");
        for (int c = 0; c < 64; c++) {
            x.cell(c, 5, 0, x.whose(c) == -2);
        }
        dueBars(x, "the winding one", 0, -2);
        for (int c : new int[] {4, 15, 24, 36, 55}) {
            x.cell(c, 5, 0, true);
            x.draw(c, -1);
            dueBars(x, "cut in two", 3, 0);
            x.draw(c, 0);
        }
        for (int c : new int[] {56, 0}) {
            x.cell(c, 5, 0, true);
            x.draw(c, -1);
            dueBars(x, "without an end", 0, -2);
        }
        x = drawn(TWO, "aaaaaaaa aaaaaaaa aaaaaaaa aaaaaaaa aaaaaaaa aaaaaaaa aaaaaaaa aaaaaaaa");
        dueBars(x, "all that there is", 0, -2);
    }

    @Sentence(of = "II",
            says = "4 (if WIDTH is 2; 1 at first) a CELL of a FIELD that is in no four of that FIELD that make a "
                    + "square.")
    private static void iiCellInNoSquare() {
        WholeFields x = drawn(TWO, "a");
        dueBars(x, "width 1 at first", 0, -2);
        x.set(0, 2);
        dueBars(x, "width 2", 4, 0);
        x.set(0, 1);
        dueBars(x, "width 1 again", 0, -2);
        dueBars(wide2("aa aa"), "one square", 0, -2);
        dueBars(wide2("aaa aaa aaa"), "cells in some square", 0, -2);
        dueBars(wide2("aaaaaaaa"), "a row alone", 4, 0);
        dueBars(wide2("a a a a"), "a column alone", 4, 0);
        dueBars(wide2("aabb aabb"), "a square each", 0, -2);
        dueBars(wide2("abb abb"), "a narrow one beside", 4, 0);
        dueBars(wide2("bba bba"), "the least cell of all fields", 4, 2);
    }

    @Sentence(of = "II", says = "a CELL of a FIELD that is in no four of that FIELD that make a square.")
    private static void iiSquareAtEachHand() {
        // A lone square in each corner of three times three, the rest water; then a cell beside it, and one more.
        int[][] squares = {{0, 1, 3, 4}, {1, 2, 4, 5}, {3, 4, 6, 7}, {4, 5, 7, 8}};
        int[][] beside = {{2, 5}, {0, 3}, {8, 5}, {6, 3}};
        for (int i = 0; i < 4; i++) {
            WholeFields x = wide2("... ... ...");
            for (int c = 0; c < 9; c++) {
                x.cell(c, 5, 0, true);
            }
            for (int c : squares[i]) {
                x.draw(c, 1);
            }
            dueBars(x, "a lone square", 0, -2);
            x.draw(beside[i][0], 1);
            dueBars(x, "a cell beside it", 4, beside[i][0]);
            x.draw(beside[i][1], 1);
            dueBars(x, "two squares of six", 0, -2);
            x.draw(squares[i][0], 0);
            due("bars() of another's cell in it", x.bars() != 0, true);
        }
    }

    @Sentence(of = "II", says = "a CELL of a FIELD that is in no four of that FIELD that make a square.")
    private static void iiSquareIsOfThatFieldAndOfThoseFour() {
        dueBars(wide2("aaa abb abb"), "an angle round a square", 4, 0);
        dueBars(wide2("aaaa abba abba aaaa"), "a ring round a square", 4, 0);
        // 3, 4, 7 and 8 would be a square, if a row's end were beside the next one's begin.
        WholeFields x = drawn(TWO, "...a aaaa a...");
        x.set(0, 2);
        for (int c : new int[] {0, 1, 2, 9, 10, 11}) {
            x.cell(c, 5, 0, true);
        }
        dueBars(x, "no square over the rows' ends", 4, 3);
        x = wide2("aaaa aaaa aaaa");
        x.cell(1, 5, 0, true);
        dueBars(x, "water of the field counts", 0, -2);
        x.draw(1, -1);
        dueBars(x, "no one's water breaks its square", 4, 0);
        x.draw(0, -1);
        x.cell(0, 5, 0, true);
        dueBars(x, "no one's water needs none", 0, -2);
    }

    @Sentence(of = "II", says = "Of one sort the least CELL (of 3 the least OWNER).")
    private static void iiLeastCellOfOneSort() {
        WholeFields x = drawn(TWO, "aa. a.a ...");
        dueBars(x, "the least without owner", 1, 2);
        x = drawn(TWO, "aa aa");
        x.keep(3, 1);
        x.keep(2, 1);
        dueBars(x, "the least kept", 2, 2);
        x.keep(1, 1);
        dueBars(x, "the least kept", 2, 1);
        dueBars(drawn(SIX, "bcbc aaaa"), "the least owner, not the least cell", 3, 1);
        dueBars(drawn(SIX, "cbcb aaaa"), "the least owner, not the least cell", 3, 1);
        dueBars(drawn(SIX, "fef aaa"), "the last owner", 3, 5);
        dueBars(wide2("aabb aabb abbb"), "of thin cells the least, the first owner's", 4, 8);
        dueBars(wide2("bbaa bbaa baaa"), "of thin cells the least, the last owner's", 4, 8);
        dueBars(wide2("aabb aabb aaba"), "torn goes first", 3, 0);
    }

    @Sentence(of = "II", says = "LAWFUL: without.")
    private static void iiLawfulIsWithout() {
        WholeFields x = drawn(TWO, "ab");
        dueBars(x, "lawful", 0, -2);
        due("can()", x.can(), 0);
        x.draw(0, -1);
        refused(x, "can() of an unlawful one", x.can(), 5);
        x = with(TWO, 2, 2);
        for (int c = 0; c < 4; c++) {
            x.cell(c, 5, 0, true);
        }
        dueBars(x, "nothing but water is lawful", 0, -2);
    }

    @Sentence(of = "II",
            says = "BETTER: of two DRAWINGS the one of less SHORT together, of like ones the one of greater TOTAL.")
    private static void iiBetterAtItsEdge() {
        // One cell may go to b: a's worth of it is 5, b's is told.
        String[] worths = {"4", "5", "6"};
        int[] can = {0, 0, 1};
        for (int i = 0; i < 3; i++) {
            WholeFields x = drawn("owner a worth 5; owner b worth " + worths[i], "a");
            due("can() of " + worths[i], x.can(), can[i]);
        }
        WholeFields x = drawn("owner a worth 5; owner b worth 1", "a");
        x.had(1, 1);
        due("can(): less short by 1, less total by 4", x.can(), 1);
        x.had(0, 1);
        due("can(): as short, less total", x.can(), 0);
        x = drawn("owner a worth 1; owner b worth 9", "a");
        x.had(0, 1);
        due("can(): more short by 1, more total by 8", x.can(), 0);
        x.had(1, 1);
        due("can(): as short, more total", x.can(), 1);
    }

    // ---- promise 13

    @Sentence(of = "13", says = "A CELL is an OWNER's (NONE: no one's): true;")
    private static void p13FirstAndLast() {
        WholeFields x = with(SIX, 8, 8);
        for (int c : new int[] {0, 63}) {
            for (int o : new int[] {0, 5, -1, 5, 0}) {
                taken(x, "draw(" + c + ", " + o + ")", x.draw(c, o));
                due("whose(" + c + ")", x.whose(c), o == -1 ? -2 : o);
                due("sum(5)", x.sum(5), o == 5 ? 1 : 0);
                due("count(4)", x.count(4), o == -1 ? 64 : 63);
            }
            x.draw(c, -1);
        }
        x.cell(7, 5, 0, true);
        x.keep(7, 1);
        taken(x, "draw of a water cell that is kept by another", x.draw(7, 0));
        due("whose(7)", x.whose(7), 0);
    }

    @Sentence(of = "13", says = "false: 1;")
    private static void p13NoneSuch() {
        refusesFalse(NO_GROUND, "draw(0, 0)", x -> x.draw(0, 0), 1);
        refusesFalse(NO_GROUND, "draw(0, NONE)", x -> x.draw(0, -1), 1);
        for (int c : NO_CELLS) {
            refusesFalse(GROUND, "draw(" + c + ", 0)", x -> x.draw(c, 0), 1);
            refusesFalse(GROUND, "draw(" + c + ", NONE)", x -> x.draw(c, -1), 1);
        }
        for (int o : new int[] {-2, 2, 6, NO_NUMBER, HIGHEST}) {
            refusesFalse(GROUND, "draw(0, " + o + ")", x -> x.draw(0, o), 1);
            refusesFalse(GROUND, "draw(5, " + o + ")", x -> x.draw(5, o), 1);
        }
    }

    @Sentence(of = "13", says = "1; 5 (it is so).")
    private static void p13ItIsSo() {
        refusesFalse(GROUND, "draw(0, 0)", x -> x.draw(0, 0), 5);
        refusesFalse(GROUND, "draw(4, 1)", x -> x.draw(4, 1), 5);
        refusesFalse(GROUND, "draw(5, NONE)", x -> x.draw(5, -1), 5);
        WholeFields x = with(ONE, 1, 1);
        refused(x, "draw(0, NONE) at first", x.draw(0, -1), 5);
    }

    // ---- promise 14

    @Sentence(of = "14", says = "Whose a CELL is;")
    private static void p14FirstAndLast() {
        WholeFields x = with(SIX, 8, 8);
        x.draw(0, 5);
        x.draw(63, 0);
        due("whose(0)", x.whose(0), 5);
        due("whose(63)", x.whose(63), 0);
        due("whose(1)", x.whose(1), -2);
        due("whose(62)", x.whose(62), -2);
    }

    @Sentence(of = "14", says = "-2 if it is no one's;")
    private static void p14NoOnes() {
        WholeFields x = with(ONE, 1, 1);
        due("whose(0) at first", x.whose(0), -2);
        x.draw(0, 0);
        x.draw(0, -1);
        due("whose(0) of no one's again", x.whose(0), -2);
        x.cell(0, 5, 0, true);
        due("whose(0) of water", x.whose(0), -2);
    }

    @Sentence(of = "14", says = "NONE for none such.")
    private static void p14NoneSuch() {
        quiet(NO_GROUND, "whose(0)", x -> x.whose(0), -1);
        for (int c : NO_CELLS) {
            quiet(GROUND, "whose(" + c + ")", x -> x.whose(c), -1);
        }
    }

    // ---- promise 15

    @Sentence(of = "15", says = "SUM of an OWNER;")
    private static void p15NothingAndAll() {
        WholeFields x = with(SIX.replace("worth 1", "worth 99*99*2"), 8, 8);
        for (int o : new int[] {0, 5}) {
            due("sum of nothing", x.sum(o), 0);
            for (int c = 0; c < 64; c++) {
                x.draw(c, o);
            }
            due("sum of all", x.sum(o), 640000);
        }
        due("sum of nothing any more", x.sum(0), 0);
    }

    @Sentence(of = "15", says = "-2^31 for none such.")
    private static void p15NoneSuch() {
        quiet(NO_GROUND, "sum(0)", x -> x.sum(0), NO_NUMBER);
        for (int o : NO_OWNERS) {
            quiet(GROUND, "sum(" + o + ")", x -> x.sum(o), NO_NUMBER);
        }
    }

    // ---- promise 16

    @Sentence(of = "16", says = "TOTAL (what 0),")
    private static void p16Total() {
        WholeFields x = with(SIX.replace("worth 1", "worth 99*99*2"), 8, 8);
        due("total(0) of nothing", x.total(0), 0);
        for (int c = 0; c < 64; c++) {
            x.draw(c, c % 6);
        }
        due("total(0) of all", x.total(0), 640000);
        x.draw(63, -1);
        due("total(0) without no one's cell", x.total(0), 630000);
    }

    @Sentence(of = "16", says = "SHORT together (1),")
    private static void p16ShortTogether() {
        WholeFields x = with(SIX.replace("worth 1", "worth 0-99*99*2"), 8, 8);
        due("total(1) of nothing", x.total(1), 0);
        for (int o = 0; o < 6; o++) {
            x.had(o, 1000000);
        }
        due("total(1) of six", x.total(1), 6000000);
        for (int c = 0; c < 64; c++) {
            x.draw(c, 0);
        }
        due("total(1), below nothing too", x.total(1), 6640000);
    }

    @Sentence(of = "16", says = "BOUND (2), BOUND less TOTAL (3),")
    private static void p16BoundAndLess() {
        WholeFields x = with(SIX.replace("worth 1", "worth 99*99*2"), 8, 8);
        due("total(2) of all", x.total(2), 640000);
        due("total(3) of nothing drawn", x.total(3), 640000);
        for (int c = 0; c < 64; c++) {
            x.draw(c, c % 6);
        }
        due("total(3) of all drawn", x.total(3), 0);
        x.cell(0, 5, 0, true);
        due("total(2) without a water cell", x.total(2), 630000);
        due("total(3): the water one is an owner's still", x.total(3), -10000);
    }

    @Sentence(of = "IV",
            says = "BOUND: each CELL that isn't WATER of its KEPT OWNER's VALUE, else of the greatest of all OWNERS: "
                    + "together.")
    private static void ivBoundOfKeptAndFree() {
        String text = "owner a worth 3;owner b worth 9;owner c worth 1;owner d worth 0;owner e worth 2;"
                + "owner f worth soil*2";
        WholeFields x = with(text, 3, 1);
        due("total(2): the last owner's is the greatest", x.total(2), 30);
        x.cell(0, 0, 0, false);
        due("total(2): the second's of the first cell", x.total(2), 9 + 10 + 10);
        x.keep(1, 3);
        due("total(2): a kept one of the least value", x.total(2), 9 + 0 + 10);
        x.keep(1, 5);
        due("total(2): kept by the last", x.total(2), 9 + 10 + 10);
        x.keep(2, 0);
        due("total(2)", x.total(2), 9 + 10 + 3);
        x.cell(2, 5, 0, true);
        due("total(2): a kept water one isn't counted", x.total(2), 19);
        x.cell(0, 5, 0, true);
        x.cell(1, 5, 0, true);
        due("total(2) of water alone", x.total(2), 0);
        x = with("owner a worth 0-7;owner b worth 0-9", 2, 1);
        due("total(2): all below nothing", x.total(2), -14);
        x.draw(0, 1);
        due("total(2): the drawing doesn't count", x.total(2), -14);
        due("total(3)", x.total(3), -5);
    }

    @Sentence(of = "16", says = "pairs of ENVY (4),")
    private static void p16PairsOfEnvy() {
        WholeFields x = with(FARS, 3, 2);
        due("total(4) of nothing", x.total(4), 0);
        for (int o = 0; o < 6; o++) {
            x.door(o, o);
            x.draw(o, o);
        }
        due("total(4): each envies each", x.total(4), 30);
        x.draw(5, -1);
        due("total(4): a field of none is not envied, but envies", x.total(4), 25);
        redraw(x, "aaa aaa");
        due("total(4): five envy one", x.total(4), 5);
        x = drawn(SIX, "abc def");
        due("total(4) of like ones", x.total(4), 0);
    }

    @Sentence(of = "16", says = "how many say yes (5),")
    private static void p16HowManySayYes() {
        WholeFields x = drawn(SIX, "abc def");
        for (int o = 0; o <= 6; o++) {
            due("total(5)", x.total(5), 6 - o);
            if (o < 6) {
                x.had(o, 2);
            }
        }
    }

    @Sentence(of = "16", says = "length of all borders (sides between CELLS of unlike OWNERS, one and none too) (6).")
    private static void p16LengthOfBorders() {
        WholeFields x = with(TWO, 8, 8);
        due("total(6) of no one's alone", x.total(6), 0);
        for (int c = 0; c < 64; c++) {
            x.draw(c, (c + c / 8) % 2);
        }
        due("total(6) of the most", x.total(6), 112);
        for (int c = 0; c < 64; c++) {
            x.draw(c, x.whose(c) == 1 ? -1 : 0);
        }
        due("total(6) of one and none", x.total(6), 112);
        for (int c = 0; c < 64; c++) {
            x.draw(c, 1);
        }
        due("total(6) of one owner alone: the rim is no border", x.total(6), 0);
        due("total(6) of the rows' ends", drawn(TWO, "aab baa").total(6), 4);
        due("total(6) of a lone pair", drawn(TWO, "ab").total(6), 1);
        due("total(6) of a lone pair with none", drawn(TWO, "a.").total(6), 1);
        due("total(6) of three sorts", drawn(SIX, "af. fa.").total(6), 6);
        WholeFields wet = drawn(TWO, "a.");
        wet.cell(1, 5, 0, true);
        due("total(6) beside water", wet.total(6), 1);
        due("total(6) of one cell", drawn(TWO, "a").total(6), 0);
    }

    @Sentence(of = "16", says = "-2^31: 1 (what, no GROUND).")
    private static void p16NoneSuch() {
        for (int what = 0; what <= 6; what++) {
            int w = what;
            refusesNumber(NO_GROUND, "total(" + w + ")", x -> x.total(w), 1);
        }
        for (int what : new int[] {-1, 7, NO_NUMBER, HIGHEST}) {
            refusesNumber(State.ALL, "total(" + what + ")", x -> x.total(what), 1);
        }
    }

    // ---- promises 17 and 18

    @Sentence(of = "17", says = "BARS; 0 if it is LAWFUL.")
    private static void p17EachSort() {
        WholeFields x = drawn(TWO, "a.");
        dueBars(x, "no owner", 1, 1);
        x.draw(1, 1);
        dueBars(x, "lawful", 0, -2);
        x.keep(1, 0);
        dueBars(x, "kept", 2, 1);
        x.keep(1, -1);
        x.set(0, 2);
        dueBars(x, "thin", 4, 0);
        dueBars(drawn(TWO, "aba"), "torn", 3, 0);
    }

    @Sentence(of = "17", says = "NONE: 1 (no GROUND).")
    private static void p17WithoutAGround() {
        refusesNone(NO_GROUND, "bars()", x -> x.bars(), 1);
    }

    @Sentence(of = "18", says = "The CELL (of 3 the OWNER) of the latest bars();")
    private static void p18OfTheLatest() {
        WholeFields x = with(SIX, 8, 8);
        for (int c = 0; c < 63; c++) {
            x.draw(c, 0);
        }
        x.bars();
        due("barred() of the last cell", x.barred(), 63);
        x.draw(63, 5);
        x.draw(0, 5);
        due("barred(), the drawing being changed since", x.barred(), 63);
        x.bars();
        due("barred() of the last owner", x.barred(), 5);
        x.draw(0, -1);
        x.bars();
        due("barred() of the first cell", x.barred(), 0);
        x.draw(0, 0);
        x.draw(9, 5);
        x.draw(0, 5);
        x.can();
        x.better(1);
        x.best(false);
        x.grow();
        due("barred(), which other calls leave", x.barred(), 0);
    }

    @Sentence(of = "18", says = "-2 if it told 0;")
    private static void p18IfItTold0() {
        WholeFields x = drawn(ONE, "a");
        x.bars();
        due("barred()", x.barred(), -2);
        x.draw(0, -1);
        due("barred() ahead of the next bars()", x.barred(), -2);
        x.bars();
        due("barred()", x.barred(), 0);
    }

    @Sentence(of = "18", says = "NONE ahead of any.")
    private static void p18AheadOfAny() {
        WholeFields x = new WholeFields();
        due("barred() of a new object", x.barred(), -1);
        x.bars();
        due("barred() behind a refused bars()", x.barred(), -1);
        Texts.book(x, ONE);
        x.bars();
        due("barred() behind a refused bars()", x.barred(), -1);
        x.ground(1, 1);
        due("barred() of a new ground", x.barred(), -1);
        x.can();
        x.better(1);
        due("barred() behind other calls that look for bars", x.barred(), -1);
        quiet(State.ALL, "barred() of that state", y -> 0 * y.barred(), 0);
    }

    // ---- promise 19

    @Sentence(of = "IV",
            says = "ENVY: an OWNER to whom another one's FIELD (with a CELL at least) is of greater SUM (by its own "
                    + "VALUES) than its own; pairs of such.")
    private static void ivEnvyAtItsEdge() {
        WholeFields x = drawn("owner a worth soil;owner b worth 9-soil", "ab");
        due("envies(0, 1): as much", x.envies(0, 1), 0);
        x.cell(1, 6, 0, false);
        due("envies(0, 1): one more", x.envies(0, 1), 1);
        due("envies(1, 0): by b's own values 4 against 3", x.envies(1, 0), 1);
        x.cell(1, 4, 0, false);
        due("envies(0, 1): one less", x.envies(0, 1), 0);
        due("envies(1, 0): 4 against 5", x.envies(1, 0), 0);
        x = drawn("owner a worth 0-1;owner b worth 0-1", "aa");
        due("envies(0, 1): a field of none is worth more, but not envied", x.envies(0, 1), 0);
        due("envies(1, 0): worth less than nothing", x.envies(1, 0), 0);
        x = drawn("owner a worth soil;owner b worth soil", "aa");
        due("envies(1, 0) of an owner without a cell", x.envies(1, 0), 1);
        x.cell(0, 0, 0, false);
        x.cell(1, 0, 0, false);
        due("envies(1, 0): worth as much as nothing", x.envies(1, 0), 0);
        x = drawn("owner a worth soil-5;owner b worth soil-5", "ab");
        x.cell(0, 4, 0, false);
        due("envies(0, 1): a field of worth nothing with a cell", x.envies(0, 1), 1);
    }

    @Sentence(of = "19", says = "Whether an OWNER ENVIES another one: 1, 0.")
    private static void p19FirstAndLast() {
        WholeFields x = drawn(FARS, "af");
        x.door(5, 1);
        due("envies(0, 5)", x.envies(0, 5), 1);
        due("envies(5, 0)", x.envies(5, 0), 1);
        due("trouble()", x.trouble(), 0);
        due("envies(4, 5): nobody's field with a cell farther", x.envies(4, 5), 1);
        due("envies(4, 0)", x.envies(4, 0), 0);
        due("envies(0, 4)", x.envies(0, 4), 0);
    }

    @Sentence(of = "19", says = "NONE: 1 (also the same one).")
    private static void p19NoneSuch() {
        refusesNone(NO_GROUND, "envies(0, 1)", x -> x.envies(0, 1), 1);
        refusesNone(GROUND, "envies(0, 0)", x -> x.envies(0, 0), 1);
        refusesNone(GROUND, "envies(1, 1)", x -> x.envies(1, 1), 1);
        for (int o : NO_OWNERS) {
            refusesNone(GROUND, "envies(" + o + ", 0)", x -> x.envies(o, 0), 1);
            refusesNone(GROUND, "envies(0, " + o + ")", x -> x.envies(0, o), 1);
            refusesNone(GROUND, "envies(" + o + ", " + o + ")", x -> x.envies(o, o), 1);
        }
    }

    // ---- promise 20

    @Sentence(of = "IV", says = "VOTES: an OWNER says yes to a DRAWING if its SUM is no less than HAD")
    private static void ivSumNoLessThanHad() {
        WholeFields x = drawn("owner a worth 5;owner b worth 0-1", "ab");
        int[] hads = {0, 4, 5, 6};
        int[] yes = {1, 1, 1, 0};
        for (int i = 0; i < 4; i++) {
            x.had(0, hads[i]);
            due("votes(0) of had " + hads[i], x.votes(0), yes[i]);
        }
        due("votes(1): less than nothing", x.votes(1), 0);
        x.draw(1, 0);
        due("votes(1) of no cell", x.votes(1), 1);
    }

    @Sentence(of = "IV", says = "and no CELL of its FIELD is farther (far) than LIMIT (0 .. 20; 20 at first).")
    private static void ivNoCellFartherThanLimit() {
        WholeFields x = with(TWO, 8, 8);
        x.draw(63, 0);
        due("votes(0) at first", x.votes(0), 1);
        int[] limits = {14, 13, 20, 0};
        int[] yes = {1, 0, 1, 0};
        for (int i = 0; i < 4; i++) {
            x.set(1, limits[i]);
            due("votes(0) of limit " + limits[i], x.votes(0), yes[i]);
        }
        x.door(0, 63);
        due("votes(0) at the door, of limit 0", x.votes(0), 1);
        x.draw(62, 0);
        due("votes(0) a step beyond", x.votes(0), 0);
        x.draw(62, 1);
        due("votes(0): another's cell doesn't count", x.votes(0), 1);
        due("votes(1)", x.votes(1), 0);
        x.draw(62, 0);
        x.cell(62, 5, 0, true);
        due("votes(0): a water cell of the field counts", x.votes(0), 0);
        x = with(TWO, 8, 8);
        x.door(0, 63);
        x.draw(0, 0);
        x.set(1, 14);
        due("votes(0) of the first cell, from the last", x.votes(0), 1);
        x.set(1, 13);
        due("votes(0) of the first cell, from the last", x.votes(0), 0);
    }

    @Sentence(of = "20", says = "Whether an OWNER says yes: 1, 0.")
    private static void p20FirstAndLast() {
        WholeFields x = drawn(SIX, "af");
        due("votes(0)", x.votes(0), 1);
        due("votes(5)", x.votes(5), 1);
        due("trouble()", x.trouble(), 0);
        x.had(5, 2);
        due("votes(0)", x.votes(0), 1);
        due("votes(5)", x.votes(5), 0);
        due("trouble()", x.trouble(), 0);
    }

    @Sentence(of = "20", says = "NONE: 1.")
    private static void p20NoneSuch() {
        refusesNone(NO_GROUND, "votes(0)", x -> x.votes(0), 1);
        for (int o : NO_OWNERS) {
            refusesNone(GROUND, "votes(" + o + ")", x -> x.votes(o), 1);
        }
    }
}
