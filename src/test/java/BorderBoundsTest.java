/** The edges that promises 25 to 32 name, and Terms V: stakes, splits and ditches. */
final class BorderBoundsTest extends Checks {
    private static final State[] NO_GROUND = State.WITHOUT_GROUND;
    private static final State[] GROUND = State.WITH_GROUND;
    private static final int[] NO_OWNERS = {-1, 2, 6, NO_NUMBER, HIGHEST};
    private static final int LOWEST = NO_NUMBER;

    public static void main(String[] args) {
        playSentences(BorderBoundsTest.class);
    }

    private static void dueSplit(WholeFields x, int low, int high, int border, int part) {
        due("split(0, " + low + ", " + high + ")", x.split(0, low, high), border);
        due("trouble()", x.trouble(), 0);
        due("part()", x.part(), part);
    }

    private static void dueDitches(WholeFields x, int length, int... corners) {
        x.clear();
        for (int i = 0; i < corners.length; i++) {
            due("corner(" + corners[i] + ")", x.corner(corners[i]), i + 1);
        }
        StringBuilder told = new StringBuilder("ditches() of");
        for (int c : corners) {
            told.append(' ').append(c);
        }
        if (length >= 0) {
            due(told.toString(), x.ditches(), length);
            due("trouble()", x.trouble(), 0);
        } else {
            refused(x, told.toString(), x.ditches(), 6);
        }
    }

    /** Every cell unlike those beside it: all sides but the rim are borders. */
    private static WholeFields chequered(int wide, int high) {
        WholeFields x = with(TWO, wide, high);
        for (int c = 0; c < wide * high; c++) {
            x.draw(c, (c % wide + c / wide) % 2);
        }
        return x;
    }

    // ---- Terms V: stakes

    @Sentence(of = "V",
            says = "STAKES of a FIELD that hangs together: corners (x from 0 to wide, y from 0 to high; numbers (wide "
                    + "and 1) times y and x) in order,")
    private static void vCornersAreNumberedByRows() {
        dueStakes(drawn(ONE, "a"), 0, 0, 1, 3, 2);
        dueStakes(drawn(ONE, "aaaaaaaa"), 0, 0, 8, 17, 9);
        dueStakes(drawn(ONE, "a a a a a a a a"), 0, 0, 1, 17, 16);
        WholeFields x = with(TWO, 8, 8);
        x.draw(0, 1);
        dueStakes(x, 1, 0, 1, 10, 9);
        x.draw(0, -1);
        x.draw(7, 1);
        dueStakes(x, 1, 7, 8, 17, 16);
        x.draw(7, -1);
        x.draw(56, 1);
        dueStakes(x, 1, 63, 64, 73, 72);
        x.draw(56, -1);
        x.draw(63, 1);
        dueStakes(x, 1, 70, 71, 80, 79);
        for (int c = 0; c < 64; c++) {
            x.draw(c, 0);
        }
        dueStakes(x, 0, 0, 8, 80, 72);
    }

    @Sentence(of = "V", says = "from its uppermost side's left end (of the uppermost row the leftmost CELL),")
    private static void vFromTheUppermostSidesLeftEnd() {
        dueStakes(drawn(TWO, "bba aaa"), 0, 2, 3, 11, 8, 4, 6);
        dueStakes(drawn(TWO, "abb aaa"), 0, 0, 1, 5, 7, 11, 8);
        // Two cells of the uppermost row stand apart: the left one's side is the first.
        dueStakes(drawn(TWO, "baba baaa"), 0, 1, 2, 7, 8, 3, 4, 14, 11);
        dueStakes(drawn(TWO, "bbb bab bbb"), 0, 5, 6, 10, 9);
    }

    @Sentence(of = "V", says = "round its outer border with the FIELD to the right hand, one at each turn;")
    private static void vOneAtEachTurn() {
        dueStakes(drawn(TWO, "bab aaa bab"), 0, 1, 2, 6, 7, 11, 10, 14, 13, 9, 8, 4, 5);
        // A comb: the most turns in two rows of seven.
        dueStakes(drawn(TWO, "abababa aaaaaaa"), 0,
                0, 1, 9, 10, 2, 3, 11, 12, 4, 5, 13, 14, 6, 7, 23, 16);
        dueStakes(drawn(TWO, "aaaaa abbba abbba abbba aaaaa"), 0, 0, 5, 35, 30);
        dueStakes(drawn(TWO, "aaaa abba aaaa"), 0, 0, 4, 19, 15);
        dueStakes(drawn(TWO, "aaaa abba aaaa"), 1, 6, 8, 13, 11);
    }

    @Sentence(of = "V", says = "round its outer border")
    private static void vNotOverTheRowsEnds() {
        WholeFields x = drawn(TWO, "aab aab bbb");
        dueStakes(x, 0, 0, 2, 10, 8);
        x = drawn(TWO, "baa baa bbb");
        dueStakes(x, 0, 1, 3, 11, 9);
        // b is at both the rows' ends: its field goes round by the last row.
        x = drawn(TWO, "baab baab bbbb");
        dueStakes(x, 1, 0, 1, 11, 13, 3, 4, 19, 15);
        due("within(1)", x.within(1), 8);
    }

    @Sentence(of = "V",
            says = "where two CELLS touch at a corner alone, the border turns so that it stays with the CELL it went "
                    + "along.")
    private static void vStaysWithTheCellAtATouchingCorner() {
        // An open ring whose ends touch at the corner 10, from both sides.
        dueStakes(drawn(TWO, "aaa aba aab"), 0, 0, 3, 11, 10, 6, 5, 9, 10, 14, 12);
        dueStakes(drawn(TWO, "aaa aba baa"), 0, 0, 3, 15, 13, 9, 10, 6, 5, 9, 8);
        dueStakes(drawn(TWO, "aab aba aaa"), 0, 0, 2, 6, 5, 9, 10, 6, 7, 15, 12);
        dueStakes(drawn(TWO, "baa aba aaa"), 0, 1, 3, 15, 12, 4, 5, 9, 10, 6, 5);
        // Two cells in a row touch the outside, each the next: the border goes round both, there and back.
        WholeFields x = drawn(TWO, "aaaa abaa aaba aaab");
        dueStakes(x, 0, 0, 4, 19, 18, 13, 12, 7, 6, 11, 12, 17, 18, 23, 20);
        due("within(0)", x.within(0), 13);
        // Holes that touch each other alone are within.
        dueStakes(drawn(TWO, "aaaa abaa aaba aaaa"), 0, 0, 4, 24, 20);
    }

    // ---- promises 25 to 27

    @Sentence(of = "25", says = "How many STAKES a FIELD has.")
    private static void p25FewestAndMany() {
        WholeFields x = drawn(SIX, "af");
        due("stakes(0)", x.stakes(0), 4);
        due("stakes(5) of the last owner", x.stakes(5), 4);
        due("trouble()", x.trouble(), 0);
        x = with(ONE, 8, 8);
        for (int c = 0; c < 64; c++) {
            x.draw(c, 0);
        }
        due("stakes(0) of all cells", x.stakes(0), 4);
        // Combs of four teeth up and down from a way of eight between them, and one tooth more at each end.
        x = drawn(ONE, "a.a.a.a. a.a.a.a. a.a.a.a. aaaaaaaa .a.a.a.a .a.a.a.a .a.a.a.a .a.a.a.a");
        due("stakes(0) of two combs", x.stakes(0), 32);
        due("within(0) of two combs", x.within(0), 36);
        // Nearly as many as there can be; all that is not the field's lies open, over corners at least.
        String rows = ".a.aa.aa aaa.aa.a .a.a.aaa aaaaaa.a .a.a.aa. a.a.a.aa aaaaaaa. a.a.a.aa";
        x = drawn(ONE, rows);
        due("stakes(0) of a jagged field", x.stakes(0), 82);
        due("its turns", turns(rows.replace(" ", "")), 82);
        due("within(0) of a jagged field", x.within(0), rows.replaceAll("[^a]", "").length());
        due("stake(0, 81)", hasNoStake(x, 0, 81), false);
        due("stake(0, 82)", hasNoStake(x, 0, 82), true);
    }

    /** Where one or three of four cells about a corner are a's the border turns, and twice where two touch. */
    private static int turns(String cells) {
        int found = 0;
        for (int corner = 0; corner < 81; corner++) {
            int four = 0;
            for (int k = 0; k < 4; k++) {
                int x = corner % 9 - k % 2;
                int y = corner / 9 - k / 2;
                boolean isField = x >= 0 && y >= 0 && x < 8 && y < 8 && cells.charAt(y * 8 + x) == 'a';
                four |= isField ? 1 << k : 0;
            }
            found += Integer.bitCount(four) % 2 == 1 ? 1 : four == 0b1001 || four == 0b0110 ? 2 : 0;
        }
        return found;
    }

    @Sentence(of = "25", says = "NONE: 1;")
    private static void p25NoneSuch() {
        refusesNone(NO_GROUND, "stakes(0)", x -> x.stakes(0), 1);
        for (int o : NO_OWNERS) {
            refusesNone(GROUND, "stakes(" + o + ")", x -> x.stakes(o), 1);
        }
    }

    private static final Maker[] NO_FIELD = {() -> drawn(TWO, "bbb bbb"), () -> drawn(TWO, "aba bbb"),
        () -> drawn(TWO, "ab ba"), () -> drawn(TWO, "bba abb"), () -> drawn(TWO, "...")};

    @Sentence(of = "25", says = "5 (no CELL, or it doesn't hang together).")
    private static void p25NoCellOrTorn() {
        refusesNone(NO_FIELD, "stakes(0)", x -> x.stakes(0), 5);
        WholeFields x = drawn(TWO, "a.b");
        due("stakes(0) of one cell", x.stakes(0), 4);
        x.draw(2, 0);
        refused(x, "stakes(0) of two apart", x.stakes(0), 5);
        x.draw(1, 0);
        due("stakes(0) of three", x.stakes(0), 4);
    }

    @Sentence(of = "26", says = "The i-th of them.")
    private static void p26FirstAndLast() {
        WholeFields x = drawn(SIX, "af");
        due("stake(0, 0)", x.stake(0, 0), 0);
        due("stake(0, 3)", x.stake(0, 3), 3);
        due("stake(5, 0)", x.stake(5, 0), 1);
        due("stake(5, 3)", x.stake(5, 3), 4);
        x.draw(1, 0);
        due("stake(0, 1), the field being changed", x.stake(0, 1), 2);
        due("stake(5, 0) throws, the field being empty", hasNoStake(x, 5, 0), true);
    }

    @Sentence(of = "26", says = "NoSuchElementException if there is none such.")
    private static void p26NoneSuch() {
        for (int i : new int[] {-1, 4, 64, NO_NUMBER, HIGHEST}) {
            quiet(new Maker[] {State.LAWFUL, State.FAULTED}, "stake(0, " + i + ")", x -> thrown(x, 0, i), 1);
        }
        quiet(new Maker[] {State.LAWFUL}, "stake(0, 3)", x -> thrown(x, 0, 3), 0);
        for (int o : NO_OWNERS) {
            quiet(GROUND, "stake(" + o + ", 0)", x -> thrown(x, o, 0), 1);
        }
        quiet(NO_GROUND, "stake(0, 0)", x -> thrown(x, 0, 0), 1);
        quiet(NO_FIELD, "stake(0, 0)", x -> thrown(x, 0, 0), 1);
    }

    private static int thrown(WholeFields x, int owner, int i) {
        return hasNoStake(x, owner, i) ? 1 : 0;
    }

    @Sentence(of = "27", says = "How many CELLS are within STAKES of a FIELD (holes, too).")
    private static void p27HolesToo() {
        due("within(0) of one cell", drawn(ONE, "a").within(0), 1);
        WholeFields x = with(SIX, 8, 8);
        for (int c = 0; c < 64; c++) {
            x.draw(c, 5);
        }
        due("within(5) of all", x.within(5), 64);
        for (int c = 0; c < 64; c++) {
            boolean isRim = c < 8 || c > 55 || c % 8 == 0 || c % 8 == 7;
            x.draw(c, isRim ? 5 : -1);
        }
        due("within(5) of the rim: the hole is within", x.within(5), 64);
        x.draw(18, 5);
        refused(x, "within(5) of the rim and a cell apart", x.within(5), 5);
        x.draw(18, -1);
        x.draw(60, -1);
        due("within(5) of the rim with a gap", x.within(5), 27);
        due("trouble()", x.trouble(), 0);
        due("within(0) of a hole in a hole", drawn(TWO, "aaaaa abbba ab.ba abbba aaaaa").within(0), 25);
        due("within(1) of the inner ring", drawn(TWO, "aaaaa abbba ab.ba abbba aaaaa").within(1), 9);
        due("within(0): what lies open at a corner is not within", drawn(TWO, "aaa aba aab").within(0), 7);
        due("within(0): what lies open at the row's end", drawn(TWO, "aaaa abbb aaaa").within(0), 9);
    }

    @Sentence(of = "27", says = "NONE: 1; 5.")
    private static void p27Refused() {
        refusesNone(NO_GROUND, "within(0)", x -> x.within(0), 1);
        for (int o : NO_OWNERS) {
            refusesNone(GROUND, "within(" + o + ")", x -> x.within(o), 1);
        }
        refusesNone(NO_FIELD, "within(0)", x -> x.within(0), 5);
    }

    // ---- Terms V: splits, and promises 28 and 29

    @Sentence(of = "V",
            says = "SPLIT of a FIELD of at most 12 CELLS that hangs together in two parts that do, none empty:")
    private static void vSplitOfAtMost12() {
        WholeFields x = drawn(ONE, "aaaaaa aaaaaa");
        dueSplit(x, 30, 30, 2, 0b000111000111);
        dueSplit(x, 5, 55, 2, 1);
        dueSplit(x, 55, 55, 2, 0b011111111111);
        refused(x, "split(0, 0, 4): none empty", x.split(0, 0, 4), 6);
        refused(x, "split(0, 56, 99): none empty", x.split(0, 56, 99), 6);
        refused(x, "split(0, 60, 60): none is all", x.split(0, 60, 60), 6);
        refused(x, "split(0, 0, 0): none empty", x.split(0, 0, 0), 6);
        x = drawn(ONE, "aaaaaa. aaaaaa.");
        dueSplit(x, 30, 30, 2, 0b000111000111);
        x.draw(6, 0);
        refused(x, "split of thirteen", x.split(0, 0, 99), 5);
        x = drawn(ONE, "aa");
        dueSplit(x, 5, 5, 1, 1);
    }

    @Sentence(of = "V", says = "that hangs together in two parts that do,")
    private static void vSplitInPartsThatHangTogether() {
        WholeFields x = drawn(ONE, "aaa");
        x.cell(0, 1, 0, false);
        x.cell(1, 2, 0, false);
        x.cell(2, 4, 0, false);
        dueSplit(x, 1, 1, 1, 0b001);
        refused(x, "split(0, 2, 2): the rest would be torn", x.split(0, 2, 2), 6);
        dueSplit(x, 3, 3, 1, 0b011);
        dueSplit(x, 4, 4, 1, 0b100);
        refused(x, "split(0, 5, 5): the part would be torn", x.split(0, 5, 5), 6);
        dueSplit(x, 6, 6, 1, 0b110);
        refused(x, "split(0, 7, 7): the rest would be empty", x.split(0, 7, 7), 6);
        // Over the rows' ends nothing hangs together: 2 and 3 stand alone at theirs.
        x = drawn(TWO, "baa aab");
        due("bars()", x.bars(), 3);
        dueSplit(x, 10, 10, 1, 0b0011);
        x.cell(1, 1, 0, false);
        x.cell(4, 2, 0, false);
        refused(x, "split(0, 10, 10): 2 with 3 would be torn", x.split(0, 10, 10), 6);
    }

    @Sentence(of = "V", says = "SUM of the one part (its OWNER's VALUES) from LOW to HIGH:")
    private static void vSumFromLowToHigh() {
        WholeFields x = drawn("owner a worth soil;owner b worth 9", "aab");
        x.cell(0, 3, 0, false);
        x.cell(1, 7, 0, false);
        dueSplit(x, 3, 3, 1, 1);
        dueSplit(x, 7, 7, 1, 2);
        dueSplit(x, 3, 7, 1, 1);
        dueSplit(x, 4, 7, 1, 2);
        dueSplit(x, 3, 6, 1, 1);
        dueSplit(x, 7, 8, 1, 2);
        dueSplit(x, 2, 3, 1, 1);
        dueSplit(x, LOWEST, HIGHEST, 1, 1);
        refused(x, "split(0, 4, 6)", x.split(0, 4, 6), 6);
        refused(x, "split(0, 0, 2)", x.split(0, 0, 2), 6);
        refused(x, "split(0, 8, 9)", x.split(0, 8, 9), 6);
        refused(x, "split(0, lowest, lowest)", x.split(0, LOWEST, LOWEST), 6);
        refused(x, "split(0, highest, highest)", x.split(0, HIGHEST, HIGHEST), 6);
        x = drawn("owner a worth 0-99*99*2", "aaaaaa aaaaaa");
        dueSplit(x, -110000, -110000, 2, 0b011111111111);
        refused(x, "split(0, -109999, -100001)", x.split(0, -109999, -100001), 6);
    }

    @Sentence(of = "V", says = "of least border between both (sides),")
    private static void vOfLeastBorder() {
        WholeFields x = drawn(ONE, "aaa aaa");
        dueSplit(x, 5, 25, 2, 0b000001);
        dueSplit(x, 15, 15, 3, 0b000111);
        x = drawn(ONE, "aaa a.a aaa");
        dueSplit(x, 20, 20, 2, 0b00001111);
        x = drawn(ONE, "aaa aaa aaa");
        dueSplit(x, 15, 15, 3, 0b000000111);
        // A square of four has as long a border as three in a row and one: the number decides.
        dueSplit(x, 20, 20, 4, 0b000001111);
        x = drawn(TWO, "aab baa");
        dueSplit(x, 10, 10, 1, 0b0011);
    }

    @Sentence(of = "V", says = "of as little that with fewest CELLS in the one part,")
    private static void vWithFewestCells() {
        WholeFields x = drawn(ONE, "aaaaa");
        x.cell(0, 2, 0, false);
        x.cell(1, 2, 0, false);
        x.cell(2, 0, 0, false);
        x.cell(3, 0, 0, false);
        x.cell(4, 4, 0, false);
        // 4 are 0 and 1; 0 to 2; 0 to 3; 4; 3 and 4; 2 to 4.
        dueSplit(x, 4, 4, 1, 0b10000);
        x.cell(4, 5, 0, false);
        dueSplit(x, 4, 4, 1, 0b00011);
        dueSplit(x, 4, 5, 1, 0b10000);
    }

    @Sentence(of = "V", says = "then the lesser number as bits (CELLS of the FIELD by numbers).")
    private static void vThenTheLesserNumber() {
        WholeFields x = drawn(ONE, "..... .aaa. ..a..");
        // The field's cells are 6, 7, 8 and 12: bits 0, 1, 2 and 3.
        dueSplit(x, 5, 5, 1, 0b0001);
        dueSplit(x, 15, 15, 1, 0b0111);
        x.cell(6, 4, 0, false);
        dueSplit(x, 5, 5, 1, 0b0100);
        x.cell(8, 4, 0, false);
        dueSplit(x, 5, 5, 1, 0b1000);
        x = with(TWO, 8, 8);
        x.draw(63, 0);
        x.draw(62, 0);
        x.draw(61, 0);
        dueSplit(x, 5, 5, 1, 0b001);
        dueSplit(x, 10, 10, 1, 0b011);
        x.cell(63, 6, 0, false);
        dueSplit(x, 6, 6, 1, 0b100);
    }

    @Sentence(of = "28", says = "SPLIT: the border.")
    private static void p28LeastAndGreatBorder() {
        due("split of a row", drawn(ONE, "aa").split(0, 5, 5), 1);
        due("split of a square's half", drawn(ONE, "aa aa").split(0, 10, 10), 2);
        WholeFields x = drawn(ONE, "aaa aaa aaa");
        for (int c = 0; c < 9; c++) {
            x.cell(c, c == 4 ? 9 : 1, 0, false);
        }
        refused(x, "split of the middle alone, its rest a ring", x.split(0, 17, 99), 6);
        due("split of the middle alone, its rest a ring", x.split(0, 9, 9), 4);
        due("part()", x.part(), 1 << 4);
        x = drawn(SIX, "ff");
        due("split(5, 1, 1) of the last owner", x.split(5, 1, 1), 1);
        due("trouble()", x.trouble(), 0);
    }

    @Sentence(of = "28", says = "NONE: 1;")
    private static void p28NoneSuch() {
        refusesNone(NO_GROUND, "split(0, 0, 9)", x -> x.split(0, 0, 9), 1);
        refusesNone(NO_GROUND, "split(0, 9, 0)", x -> x.split(0, 9, 0), 1);
        for (int o : NO_OWNERS) {
            refusesNone(GROUND, "split(" + o + ", 0, 9)", x -> x.split(o, 0, 9), 1);
            refusesNone(GROUND, "split(" + o + ", 9, 0)", x -> x.split(o, 9, 0), 1);
        }
    }

    @Sentence(of = "28", says = "2 (LOW above HIGH);")
    private static void p28LowAboveHigh() {
        refusesNone(GROUND, "split(1, 8, 7)", x -> x.split(1, 8, 7), 2);
        refusesNone(GROUND, "split(1, highest, lowest)", x -> x.split(1, HIGHEST, LOWEST), 2);
        refusesNone(NO_FIELD, "split(0, 1, 0)", x -> x.split(0, 1, 0), 2);
        refusesNone(NO_FIELD, "split(0, 0, -1)", x -> x.split(0, 0, -1), 2);
        due("split(1, 7, 7)", State.LAWFUL.make().split(1, 7, 7), 1);
    }

    @Sentence(of = "28", says = "5 (more than 12 CELLS, fewer than 2, or it doesn't hang together);")
    private static void p28NoFieldToSplit() {
        refusesNone(NO_FIELD, "split(0, 0, 99)", x -> x.split(0, 0, 99), 5);
        Maker[] odd = {() -> drawn(TWO, "abb bbb"), () -> drawn(ONE, "aaaaaaa aaaaaa."), () -> drawn(TWO, "aabaa"),
            () -> drawn(ONE, "aaaaaaaa aaaaaaaa aaaaaaaa aaaaaaaa aaaaaaaa aaaaaaaa aaaaaaaa aaaaaaaa")};
        for (Maker m : odd) {
            WholeFields x = m.make();
            refused(x, "split(0, 0, 99)", x.split(0, 0, 99), 5);
            due("part()", x.part(), -1);
        }
        due("split of two", drawn(ONE, "aa").split(0, 0, 99), 1);
        due("split of twelve", drawn(ONE, "aaaaaaa aaaaa..").split(0, 0, 99), 1);
        due("split of twelve in a row and a half", drawn(ONE, "aaaaaaaa aaaa....").split(0, 0, 99), 1);
    }

    @Sentence(of = "28", says = "or it doesn't hang together); 6.")
    private static void p28NoWay() {
        refusesNone(new Maker[] {State.LAWFUL, State.FAULTED}, "split(1, 8, 12)", x -> x.split(1, 8, 12), 6);
        refusesNone(new Maker[] {State.LAWFUL, State.FAULTED}, "split(1, 20, 20)", x -> x.split(1, 20, 20), 6);
        refusesNone(new Maker[] {State.LAWFUL, State.FAULTED}, "split(0, 5, 8)", x -> x.split(0, 5, 8), 6);
    }

    @Sentence(of = "29",
            says = "The CELLS of the one part of the latest split() that told a border, as bits by the FIELD's CELLS;")
    private static void p29OfTheLatestThatToldABorder() {
        WholeFields x = drawn(ONE, "aaaaaa aaaaaa");
        x.cell(11, 9, 0, false);
        due("split(0, 9, 9)", x.split(0, 9, 9), 2);
        due("part() of the greatest bit", x.part(), 1 << 11);
        refused(x, "split(0, 1, 0)", x.split(0, 1, 0), 2);
        refused(x, "split(1, 0, 1)", x.split(1, 0, 1), 1);
        refused(x, "split(0, 1, 1)", x.split(0, 1, 1), 6);
        x.draw(5, -1);
        x.draw(4, -1);
        x.draw(10, -1);
        refused(x, "split(0, 0, 99) of a torn one", x.split(0, 0, 99), 5);
        due("part() behind refused ones", x.part(), 1 << 11);
        x.grow();
        x.keep(0, 0);
        x.bars();
        x.book(0);
        due("part() behind other calls", x.part(), 1 << 11);
        due("split(0, 5, 5)", x.split(0, 5, 5), 2);
        due("part() of the least bit", x.part(), 1);
    }

    @Sentence(of = "29", says = "NONE without one.")
    private static void p29WithoutOne() {
        WholeFields x = new WholeFields();
        due("part() of a new object", x.part(), -1);
        x = drawn(ONE, "aaa");
        due("part() ahead of any split()", x.part(), -1);
        refused(x, "split(0, 1, 0)", x.split(0, 1, 0), 2);
        refused(x, "split(1, 0, 1)", x.split(1, 0, 1), 1);
        refused(x, "split(0, 1, 1)", x.split(0, 1, 1), 6);
        due("part() behind refused ones alone", x.part(), -1);
        x.split(0, 5, 5);
        due("part()", x.part(), 1);
        x.ground(3, 1);
        due("part() of a new ground", x.part(), -1);
    }

    // ---- Terms V: ditches, and promises 30 to 32

    @Sentence(of = "30", says = "A corner for DITCHES: how many there are.")
    private static void p30FirstAndLastCorner() {
        WholeFields x = with(ONE, 8, 8);
        due("corner(0)", x.corner(0), 1);
        due("corner(80)", x.corner(80), 2);
        due("corner(8)", x.corner(8), 3);
        due("corner(72)", x.corner(72), 4);
        due("count(5)", x.count(5), 4);
        x = with(ONE, 1, 1);
        for (int c = 0; c < 4; c++) {
            due("corner(" + c + ")", x.corner(c), c + 1);
            due("trouble()", x.trouble(), 0);
        }
    }

    private static final Maker[] FULL = {() -> told(chequered(3, 2), 0, 1, 5, 11),
        () -> told(drawn(TWO, "aab aab"), 3, 2, 1, 0)};

    private static WholeFields told(WholeFields x, int... corners) {
        for (int c : corners) {
            x.corner(c);
        }
        due("count(5)", x.count(5), corners.length);
        return x;
    }

    @Sentence(of = "30", says = "NONE: 1;")
    private static void p30NoSuchCorner() {
        refusesNone(NO_GROUND, "corner(0)", x -> x.corner(0), 1);
        for (int c : new int[] {-1, 12, 81, NO_NUMBER, HIGHEST}) {
            refusesNone(GROUND, "corner(" + c + ")", x -> x.corner(c), 1);
            refusesNone(FULL, "corner(" + c + ")", x -> x.corner(c), 1);
        }
        WholeFields x = with(ONE, 8, 8);
        refused(x, "corner(81)", x.corner(81), 1);
        due("corner(80)", x.corner(80), 1);
        x.ground(1, 1);
        refused(x, "corner(4)", x.corner(4), 1);
        due("corner(3)", x.corner(3), 1);
    }

    @Sentence(of = "30", says = "3; 5 (it is told).")
    private static void p30NoRoomAndTold() {
        for (int c : new int[] {4, 10}) {
            refusesNone(FULL, "corner(" + c + ")", x -> x.corner(c), 3);
        }
        for (int c : new int[] {0, 1}) {
            refusesNone(FULL, "corner(" + c + ") that is told, with no room", x -> x.corner(c), 3);
        }
        for (int c : new int[] {1, 9}) {
            refusesNone(GROUND, "corner(" + c + ") that is told", x -> x.corner(c), 5);
        }
        refusesNone(new Maker[] {() -> told(chequered(3, 2), 0, 5, 11)}, "corner(11), the third", x -> x.corner(11), 5);
    }

    @Sentence(of = "31", says = "There are no corners for DITCHES any more: how many there were.")
    private static void p31HowManyThereWere() {
        WholeFields x = with(ONE, 2, 2);
        for (int many = 0; many <= 4; many++) {
            for (int c = 0; c < many; c++) {
                x.corner(c);
            }
            due("clear() of " + many, x.clear(), many);
            due("count(5)", x.count(5), 0);
            due("clear() again", x.clear(), 0);
        }
        due("corner(0) that was told ahead", x.corner(0), 1);
        x.clear();
        refused(x, "ditches()", x.ditches(), 5);
        due("clear()", x.clear(), 0);
        due("trouble(), which clear() leaves", x.trouble(), 5);
        quiet(new Maker[] {State.NEW, State.BOOKED, () -> drawn(ONE, "aa")}, "clear() of none", y -> y.clear(), 0);
    }

    @Sentence(of = "V", says = "DITCHES: along borders: sides between CELLS of unlike OWNERS (or of one and none);")
    private static void vAlongBorders() {
        WholeFields x = drawn(TWO, "ab ba");
        dueDitches(x, 2, 1, 7);
        dueDitches(x, 2, 3, 5);
        dueDitches(x, -1, 0, 1);
        dueDitches(x, -1, 0, 8);
        x = drawn(TWO, "a.");
        dueDitches(x, 1, 1, 4);
        x.draw(1, 0);
        dueDitches(x, -1, 1, 4);
        x.draw(0, -1);
        x.draw(1, -1);
        dueDitches(x, -1, 1, 4);
        x.cell(0, 5, 0, true);
        dueDitches(x, -1, 1, 4);
        x.draw(1, 1);
        dueDitches(x, 1, 1, 4);
        // The rim is no border: there is no way round it, nor over the rows' ends.
        x = drawn(TWO, "ab ab");
        dueDitches(x, 2, 1, 7);
        dueDitches(x, -1, 1, 2);
        dueDitches(x, -1, 2, 3);
        dueDitches(x, -1, 6, 7);
    }

    @Sentence(of = "V", says = "DITCHES: along borders:")
    private static void vNotAlongTheBordersOfAFormerGround() {
        WholeFields x = chequered(8, 8);
        dueDitches(x, 1, 40, 41);
        x.ground(3, 3);
        for (int c = 0; c < 9; c++) {
            x.draw(c, c % 2);
        }
        // Corners of the rim, whose numbers stood amid the former ground; then those of the inner sides.
        for (int[] pair : new int[][] {{12, 13}, {14, 15}, {3, 7}, {11, 15}, {0, 1}, {0, 4}, {8, 12}}) {
            dueDitches(x, -1, pair[0], pair[1]);
        }
        for (int[] pair : new int[][] {{1, 2}, {4, 8}, {13, 14}, {7, 11}}) {
            dueDitches(x, 3, pair[0], pair[1]);
        }
        for (int[] pair : new int[][] {{5, 6}, {9, 10}, {1, 5}, {10, 14}, {4, 5}, {10, 11}}) {
            dueDitches(x, 1, pair[0], pair[1]);
        }
    }

    @Sentence(of = "V", says = "of up to 4 corners told: the least length of sides that join them all.")
    private static void vLeastLengthThatJoins() {
        WholeFields x = chequered(8, 8);
        dueDitches(x, 0, 40);
        dueDitches(x, 1, 40, 41);
        dueDitches(x, 14, 1, 71);
        dueDitches(x, 16, 4, 44, 76, 36);
        dueDitches(x, 12, 10, 16, 64);
        dueDitches(x, 18, 10, 16, 64, 70);
        dueDitches(x, 10, 10, 16, 28, 34);
        dueDitches(x, 10, 34, 10, 28, 16);
        // Two upright ways of 2 and 3, and one of 4 across between them.
        dueDitches(x, 9, 11, 29, 15, 42);
        // The longest way: it winds in between two fields, and out again.
        WholeFields winding = drawn(TWO,
                "aaaaaaaa bbbbbbba aaaaaaba abbbbaba ababbaba abaaaaba abbbbbba aaaaaaaa");
        due("total(6)", winding.total(6), 49);
        dueDitches(winding, 49, 9, 18);
        dueDitches(winding, 49, 18, 9);
        dueDitches(winding, 49, 18, 39, 38, 9);
        dueDitches(winding, -1, 18, 9, 17);
        dueDitches(x, -1, 0, 40);
        dueDitches(x, -1, 40, 41, 80);
    }

    @Sentence(of = "32", says = "DITCHES: the length.")
    private static void p32TheLength() {
        WholeFields x = drawn(TWO, "ab");
        dueDitches(x, 0, 0);
        dueDitches(x, 0, 5);
        dueDitches(x, 1, 1, 4);
    }

    @Sentence(of = "32", says = "NONE: 1 (no GROUND);")
    private static void p32WithoutAGround() {
        refusesNone(NO_GROUND, "ditches()", x -> x.ditches(), 1);
    }

    @Sentence(of = "32", says = "5 (no corners); 6.")
    private static void p32NoCornersAndNoWay() {
        refusesNone(new Maker[] {() -> chequered(3, 2), () -> drawn(TWO, "aa"), () -> with(ONE, 1, 1)}, "ditches()",
                x -> x.ditches(), 5);
        refusesNone(FULL, "ditches()", x -> x.ditches(), 6);
        refusesNone(new Maker[] {() -> told(drawn(TWO, "aab aab"), 2, 10, 0)}, "ditches()", x -> x.ditches(), 6);
    }
}
