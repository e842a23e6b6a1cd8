/** The edges that promises 21 to 24 name, and the Terms that they use: growing, bettering, the best and the calmest. */
final class FoundBoundsTest extends Checks {
    private static final State[] NO_GROUND = State.WITHOUT_GROUND;
    private static final State[] GROUND = State.WITH_GROUND;

    public static void main(String[] args) {
        playSentences(FoundBoundsTest.class);
    }

    private static void dueGrown(WholeFields x, String what, int left, String rows) {
        due("grow(): " + what, x.grow(), left);
        due("trouble(): " + what, x.trouble(), 0);
        dueDrawing(x, what, rows);
    }

    private static void dueBettered(WholeFields x, String what, int moves, int made, String rows) {
        due("better(" + moves + "): " + what, x.better(moves), made);
        due("trouble(): " + what, x.trouble(), 0);
        dueDrawing(x, what, rows);
    }

    private static void dueBest(WholeFields x, String what, boolean calm, int total, String rows) {
        due("best(" + calm + "): " + what, x.best(calm), total);
        due("trouble(): " + what, x.trouble(), 0);
        dueDrawing(x, what, rows);
    }

    private static void flood(WholeFields x, int... cells) {
        for (int c : cells) {
            x.cell(c, 5, 0, true);
        }
    }

    // ---- Terms III: grown

    @Sentence(of = "III", says = "GROWN: all CELLS are no one's but KEPT ones,")
    private static void iiiNoOnesButKeptOnes() {
        WholeFields x = drawn(TWO, "bb.bb");
        flood(x, 1);
        dueGrown(x, "drawn ones are no one's, water too", 3, "a....");
        x.keep(4, 1);
        dueGrown(x, "a kept one is its owner's", 0, "a.bbb");
        x.keep(4, 0);
        x.draw(4, 1);
        dueGrown(x, "a kept one that was drawn for another", 0, "a.aaa");
        x.keep(4, -1);
        dueGrown(x, "kept no more", 3, "a....");
        for (int c = 0; c < 5; c++) {
            x.keep(c, 1 - c % 2);
        }
        flood(x, 0);
        dueGrown(x, "all are kept", 0, "babab");
    }

    @Sentence(of = "III",
            says = "and doors that aren't KEPT by another OWNER or had by a lesser one are their OWNERS' (not WATER "
                    + "ones).")
    private static void iiiDoors() {
        WholeFields x = with(SIX, 3, 1);
        flood(x, 1);
        dueGrown(x, "one door for six is the first one's", 1, "a..");
        x.door(0, 2);
        dueGrown(x, "the second has it, the first has its own", 0, "b.a");
        x.keep(0, 5);
        dueGrown(x, "a door that is kept by another", 0, "f.a");
        x.keep(2, 0);
        dueGrown(x, "a door that is kept by its own", 0, "f.a");
        x.door(0, 0);
        dueGrown(x, "kept apart from its door", 0, "f.a");
        x.keep(0, -1);
        x.keep(2, -1);
        x.door(0, 1);
        dueGrown(x, "a water door is no one's", 1, "b..");
        flood(x, 0);
        dueGrown(x, "no door but on water", 1, "...");
    }

    @Sentence(of = "III", says = "Then OWNERS in turn from 0 on:")
    private static void iiiInTurnFrom0On() {
        WholeFields x = with(TWO, 7, 1);
        x.door(1, 6);
        dueGrown(x, "the middle is the first one's", 0, "aaaabbb");
        x.door(0, 6);
        x.door(1, 0);
        dueGrown(x, "from the other end, too", 0, "bbbaaaa");
        x = with(THREE, 8, 1);
        x.door(1, 3);
        x.door(2, 4);
        dueGrown(x, "one cell a turn", 0, "aabbcccc");
        x = with(SIX, 6, 2);
        for (int o = 0; o < 6; o++) {
            x.door(o, 5 - o);
        }
        dueGrown(x, "six in turn", 0, "fedcba fedcba");
    }

    @Sentence(of = "III", says = "each takes, of CELLS that aren't WATER, are no one's, and are beside one of its own,")
    private static void iiiTakesBesideItsOwn() {
        WholeFields x = with(ONE, 3, 2);
        x.door(0, 2);
        flood(x, 1, 5);
        dueGrown(x, "not over the row's end", 3, "..a ...");
        x.door(0, 3);
        dueGrown(x, "nor back over it", 1, "a.. aa.");
        x = with(ONE, 2, 2);
        flood(x, 1, 2);
        dueGrown(x, "not over a corner", 1, "a. ..");
        x.keep(1, 0);
        dueGrown(x, "a kept water cell is its owner's, and joins", 0, "aa .a");
        x = with(ONE, 8, 8);
        dueGrown(x, "all of the widest", 0, "a".repeat(64));
        x.door(0, 63);
        dueGrown(x, "all of the widest from its end", 0, "a".repeat(64));
    }

    @Sentence(of = "III", says = "the one of greatest VALUE to it (the least of such);")
    private static void iiiGreatestValueTheLeastOfSuch() {
        // Two cells about the door of each: a's in row 0, b's in row 2; the row between is water.
        WholeFields x = with("owner a worth soil;owner b worth 0-99*99*2+soil", 3, 3);
        flood(x, 3, 4, 5);
        x.door(0, 1);
        x.door(1, 7);
        x.cell(2, 6, 0, false);
        x.keep(0, 1);
        dueGrown(x, "kept ones are not to be taken", 0, "baa ... bbb");
        x = with("owner a worth soil;owner b worth 9-soil", 3, 1);
        x.door(0, 1);
        x.door(1, 1);
        x.keep(2, 1);
        dueGrown(x, "of one, that", 0, "aab");
        x = with("owner a worth soil;owner b worth 1", 4, 2);
        x.door(0, 1);
        x.door(1, 6);
        // a may take 0, 2 or 5, of like value: it takes 0; b takes 2, the least beside it; a takes 4 then, the least.
        dueGrown(x, "the least of such", 0, "aabb aabb");
        x.cell(2, 6, 0, false);
        // a takes 2; b takes 5, the least that is left beside it; then 0, 4, 3 and 7.
        dueGrown(x, "the greatest", 0, "aaaa bbbb");
        x.cell(2, 4, 0, false);
        x.cell(5, 6, 0, false);
        dueGrown(x, "the greatest", 0, "aabb aabb");
        x = with("owner a worth 0-soil;owner b worth 1", 4, 1);
        x.door(0, 1);
        x.door(1, 3);
        x.cell(0, 9, 0, false);
        x.cell(2, 8, 0, false);
        dueGrown(x, "below nothing, too", 0, "aaab");
        x.cell(0, 8, 0, false);
        dueGrown(x, "the least of such below nothing", 0, "aabb");
        x = with("owner a worth 0-99*99*2", 8, 8);
        dueGrown(x, "of the least value that there is", 0, "a".repeat(64));
    }

    @Sentence(of = "III", says = "one that can't take is passed; ended when none can.")
    private static void iiiPassedAndEnded() {
        WholeFields x = with(THREE, 8, 1);
        x.door(1, 1);
        x.door(2, 2);
        dueGrown(x, "the first two can't take", 0, "abcccccc");
        x.door(0, 7);
        x.door(1, 6);
        x.door(2, 5);
        dueGrown(x, "the last takes alone", 0, "ccccccba");
        flood(x, 3);
        dueGrown(x, "none can", 3, "....ccba");
        flood(x, 0, 1, 2, 4, 5, 6, 7);
        dueGrown(x, "nothing but water", 0, "........");
    }

    // ---- promise 21

    @Sentence(of = "21", says = "GROWN, in place of the DRAWING:")
    private static void p21InPlaceOfTheDrawing() {
        WholeFields x = drawn(TWO, "bbb bbb");
        dueGrown(x, "the former is gone", 0, "aaa aaa");
        due("sum(0)", x.sum(0), 30);
        due("sum(1)", x.sum(1), 0);
        dueGrown(x, "again", 0, "aaa aaa");
    }

    @Sentence(of = "21", says = "how many CELLS that aren't WATER are no one's still.")
    private static void p21HowManyAreLeft() {
        WholeFields x = with(ONE, 8, 8);
        due("grow()", x.grow(), 0);
        flood(x, 1, 8);
        due("grow() from a walled door", x.grow(), 61);
        flood(x, 0);
        due("grow() from water", x.grow(), 61);
        for (int c = 0; c < 64; c++) {
            flood(x, c);
        }
        due("grow() of water alone", x.grow(), 0);
        x = with(ONE, 1, 1);
        due("grow() of one cell", x.grow(), 0);
    }

    @Sentence(of = "21", says = "NONE: 1 (no GROUND).")
    private static void p21WithoutAGround() {
        refusesNone(NO_GROUND, "grow()", x -> x.grow(), 1);
    }

    // ---- Terms III: moves

    @Sentence(of = "III", says = "MOVES of a LAWFUL DRAWING (CELLS that aren't WATER alone):")
    private static void iiiWaterDoesNotMove() {
        WholeFields x = drawn("owner a worth 1;owner b worth 9", "ab");
        flood(x, 0);
        due("can(): a water cell becomes no other's", x.can(), 0);
        x = drawn("owner a worth 5*far;owner b worth 5-5*far", "ab");
        x.had(0, 5);
        x.had(1, 5);
        due("can(): two cells are exchanged", x.can(), 1);
        flood(x, 0);
        dueBettered(x, "none with a water one: the other becomes a's", 9, 1, "aa");
        x.draw(1, 1);
        x.cell(0, 5, 0, false);
        flood(x, 1);
        dueBettered(x, "nor with the other one", 9, 1, "bb");
        x = drawn("owner a worth 9;owner b worth 1", "a.");
        flood(x, 1);
        due("can(): no one's water becomes no one's field", x.can(), 0);
    }

    @Sentence(of = "III", says = "a CELL becomes another OWNER's;")
    private static void iiiACellBecomesAnothers() {
        WholeFields x = drawn("owner a worth 1;owner b worth 2", "a");
        dueBettered(x, "the last cell of one, the first of another", 9, 1, "b");
        x = drawn(SIX.replace("f worth 1", "f worth 2"), "a");
        dueBettered(x, "from the first owner to the last", 9, 1, "f");
        x = drawn(SIX.replace("a worth 1", "a worth 2"), "f");
        dueBettered(x, "from the last owner to the first", 9, 1, "a");
    }

    @Sentence(of = "III", says = "two CELLS of two OWNERS are exchanged;")
    private static void iiiTwoCellsAreExchanged() {
        WholeFields x = drawn("owner a worth 5*far;owner b worth 5-5*far", "ab");
        dueBettered(x, "first and last cell", 9, 1, "ba");
        // b's only cell is the last of all, and the first is worth most to it.
        x = with("owner a worth 1;owner b worth soil", 8, 8);
        for (int c = 0; c < 64; c++) {
            x.cell(c, c == 0 ? 9 : 0, 0, false);
            x.draw(c, c == 63 ? 1 : 0);
        }
        dueBettered(x, "first and last cell of the widest", 1, 1, "b" + "a".repeat(63));
    }

    @Sentence(of = "III", says = "LAWFUL behind it.")
    private static void iiiLawfulBehindIt() {
        WholeFields x = drawn("owner a worth 1;owner b worth 9", "aab");
        x.keep(0, 0);
        dueBettered(x, "the kept one stays", 9, 1, "abb");
        x = drawn("owner a worth 1;owner b worth 0;owner c worth 9", "abc");
        x.keep(1, 1);
        due("can(): c would be torn by b's kept cell", x.can(), 0);
        x.keep(1, -1);
        due("can(): b's cell becomes c's", x.can(), 1);
        // To exchange 1 and 2 would be best, but tears both.
        x = drawn("owner a worth soil;owner b worth 6-soil", "aabb");
        x.cell(0, 3, 0, false);
        x.cell(1, 1, 0, false);
        x.cell(3, 3, 0, false);
        x.had(0, 8);
        x.had(1, 8);
        dueBettered(x, "an exchange that tears", 1, 1, "abbb");
        x = drawn("owner a worth 1;owner b worth 3", "aabb aabb");
        due("can() of width 1", x.can(), 1);
        x.set(0, 2);
        due("can() of width 2", x.can(), 0);
        x = thick(drawn("owner a worth 1;owner b worth 3", "aabbb aabbb aaabb aaabb aaabb"));
        dueBettered(x, "of width 2 the one cell that leaves squares", 9, 1, "aabbb aabbb aabbb aaabb aaabb");
    }

    @Sentence(of = "III", says = "BETTERED: again and again the MOVE behind which it is BETTER than behind all others")
    private static void iiiTheMoveThatIsBest() {
        WholeFields x = drawn("owner a worth 1;owner b worth 4;owner c worth 5;owner d worth 3", "a");
        dueBettered(x, "the greatest total", 1, 1, "c");
        x = drawn("owner a worth 1;owner b worth 4;owner c worth 5;owner d worth 3", "a");
        x.had(3, 1);
        dueBettered(x, "the least short", 1, 1, "d");
        dueBettered(x, "then none", 1, 0, "d");
        x = drawn("owner a worth 1;owner b worth soil", "aab");
        x.cell(0, 9, 0, false);
        x.cell(1, 2, 0, false);
        // 1 becoming b's wins 1; 0 becoming b's would tear it; 0 and 2 exchanged win 4.
        dueBettered(x, "an exchange", 1, 1, "baa");
        dueBettered(x, "then one cell", 1, 1, "bba");
        dueBettered(x, "then the last", 1, 1, "bbb");
        dueBettered(x, "then none", 1, 0, "bbb");
    }

    @Sentence(of = "III", says = "(of such: those of one CELL first,")
    private static void iiiThoseOfOneCellFirst() {
        // Cell 1 becoming a's, and 0 and 1 exchanged, are alike; the exchange has the lesser cell.
        WholeFields x = drawn("owner a worth 5*far;owner b worth 0", "ab");
        dueBettered(x, "one cell first", 1, 1, "aa");
        x = drawn("owner a worth 5*far;owner b worth 1-far", "ab");
        dueBettered(x, "an exchange that is better", 1, 1, "ba");
    }

    @Sentence(of = "III", says = "then the least CELL,")
    private static void iiiThenTheLeastCell() {
        WholeFields x = drawn("owner a worth 1;owner b worth 2", "ab aa");
        dueBettered(x, "of one cell", 1, 1, "bb aa");
        // An exchange of 3 with 0 or 1 is best; both are alike.
        x = exchangeable("bb ba", 0, 0, 9, 9);
        dueBettered(x, "of two cells", 1, 1, "ab bb");
    }

    /** a is worth 9 less soil, b soil; a had 9 and b 18, so that a's one cell is to be exchanged. */
    private static WholeFields exchangeable(String rows, int... soils) {
        WholeFields x = drawn("owner a worth 9-soil;owner b worth soil", rows);
        for (int c = 0; c < soils.length; c++) {
            x.cell(c, soils[c], 0, false);
        }
        x.had(0, 9);
        x.had(1, 18);
        return x;
    }

    @Sentence(of = "III", says = "then the lesser OWNER it becomes,")
    private static void iiiThenTheLesserOwner() {
        WholeFields x = drawn("owner a worth 1;owner b worth 2;owner c worth 2;owner d worth 2", "a");
        dueBettered(x, "of three alike", 1, 1, "b");
        x = drawn("owner a worth 2;owner b worth 2;owner c worth 2;owner d worth 1", "d");
        dueBettered(x, "of three alike", 1, 1, "a");
        x = drawn("owner a worth 1;owner b worth 2;owner c worth 3;owner d worth 3", "a");
        dueBettered(x, "of two alike", 1, 1, "c");
    }

    @Sentence(of = "III", says = "or the lesser other CELL),")
    private static void iiiOrTheLesserOtherCell() {
        WholeFields x = exchangeable("ab bb", 9, 9, 0, 0);
        dueBettered(x, "of two alike", 1, 1, "bb ab");
        x = exchangeable("ab bb", 9, 0, 9, 0);
        dueBettered(x, "of two alike", 1, 1, "ba bb");
    }

    @Sentence(of = "III", says = "as long as one makes it BETTER.")
    private static void iiiAsLongAsOneMakesItBetter() {
        WholeFields x = drawn("owner a worth 1;owner b worth 2", "aaaaaaab");
        dueBettered(x, "seven moves", 100, 7, "bbbbbbbb");
        dueBettered(x, "none is left", 100, 0, "bbbbbbbb");
        x = drawn(TWO, "aaaaaaab");
        dueBettered(x, "no worse is not better", 100, 0, "aaaaaaab");
    }

    // ---- promise 22

    private static WholeFields rows104() {
        // b's row keeps a and c apart: 48 of a's cells become b's one by one, then 56 of b's become c's.
        return drawn("owner a worth 0;owner b worth 50;owner c worth 51",
                "aaaaaaaa aaaaaaaa aaaaaaaa aaaaaaaa aaaaaaaa aaaaaaaa bbbbbbbb cccccccc");
    }

    @Sentence(of = "22", says = "BETTERED by at most so many MOVES (1 .. 100),")
    private static void p22AtMostSoMany() {
        WholeFields x = rows104();
        due("better(100)", x.better(100), 100);
        due("total(0)", x.total(0), 4 * 50 + 60 * 51);
        due("can()", x.can(), 1);
        due("better(100)", x.better(100), 4);
        due("total(0)", x.total(0), 64 * 51);
        due("better(100)", x.better(100), 0);
        x = rows104();
        due("better(1)", x.better(1), 1);
        due("total(0)", x.total(0), 9 * 50 + 8 * 51);
        due("better(99)", x.better(99), 99);
        due("better(3)", x.better(3), 3);
        due("better(1)", x.better(1), 1);
        due("better(1)", x.better(1), 0);
    }

    @Sentence(of = "22", says = "in place of the DRAWING: how many.")
    private static void p22InPlaceOfTheDrawing() {
        WholeFields x = drawn("owner a worth 1;owner b worth 2", "aab");
        dueBettered(x, "one of two", 1, 1, "abb");
        due("sum(0)", x.sum(0), 1);
        due("sum(1)", x.sum(1), 4);
        dueBettered(x, "the other", 2, 1, "bbb");
        dueBettered(x, "none", 1, 0, "bbb");
        x = with(TWO, 2, 1);
        flood(x, 0, 1);
        dueBettered(x, "of water alone", 100, 0, "..");
    }

    @Sentence(of = "22", says = "NONE: 1 (no GROUND);")
    private static void p22WithoutAGround() {
        for (int moves : new int[] {1, 100, 0, 101, -1}) {
            refusesNone(NO_GROUND, "better(" + moves + ")", x -> x.better(moves), 1);
        }
    }

    @Sentence(of = "22", says = "2; 5 (it isn't LAWFUL).")
    private static void p22BeyondTheEndsAndUnlawful() {
        for (int moves : new int[] {0, 101, -1, 1000, NO_NUMBER, HIGHEST}) {
            refusesNone(GROUND, "better(" + moves + ")", x -> x.better(moves), 2);
        }
        for (int moves : new int[] {1, 100}) {
            refusesNone(UNLAWFUL, "better(" + moves + ")", x -> x.better(moves), 5);
        }
    }

    /** Barred by each of the four sorts. */
    private static final Maker[] UNLAWFUL = {State.UNLAWFUL,
        () -> drawn("owner a worth 1;owner b worth 9", "aab aa."),
        () -> kept(drawn("owner a worth 1;owner b worth 9", "aab"), 0, 1),
        () -> drawn("owner a worth 1;owner b worth 9", "aba"),
        () -> thick(drawn("owner a worth 1;owner b worth 9", "aab aab"))};

    private static WholeFields kept(WholeFields x, int c, int owner) {
        x.keep(c, owner);
        return x;
    }

    private static WholeFields thick(WholeFields x) {
        x.set(0, 2);
        return x;
    }

    // ---- promise 23

    @Sentence(of = "23", says = "Whether a MOVE would make it BETTER: 1, 0.")
    private static void p23WouldAMove() {
        WholeFields x = rows104();
        due("can()", x.can(), 1);
        due("trouble()", x.trouble(), 0);
        due("sum(1), which can() leaves", x.sum(1), 400);
        x.better(100);
        due("can() ahead of the last four", x.can(), 1);
        x.better(3);
        due("can() ahead of the last", x.can(), 1);
        x.better(1);
        due("can() behind the last", x.can(), 0);
        due("trouble()", x.trouble(), 0);
        quiet(new Maker[] {State.LAWFUL}, "can() of a lawful one", y -> y.can(), 1);
        quiet(new Maker[] {() -> drawn(ONE, "aa")}, "can() of one owner", y -> y.can(), 0);
    }

    @Sentence(of = "23", says = "NONE: 1 (no GROUND); 5.")
    private static void p23Refused() {
        refusesNone(NO_GROUND, "can()", x -> x.can(), 1);
        refusesNone(UNLAWFUL, "can()", x -> x.can(), 5);
    }

    // ---- Terms IV: few, the best and the calmest

    @Sentence(of = "IV", says = "FEW: at most 9 CELLS that aren't WATER, at most 3 OWNERS.")
    private static void ivNineCellsAndThreeOwners() {
        WholeFields x = with(THREE, 8, 8);
        for (int c = 0; c < 54; c++) {
            flood(x, c);
        }
        refusedNumber(x, "best(false) of ten", x.best(false), 5);
        refusedNumber(x, "best(true) of ten", x.best(true), 5);
        flood(x, 63);
        due("best(false) of nine", x.best(false), 9);
        due("best(true) of nine", x.best(true), 9);
        due("best(false) of nine by three", with(THREE, 3, 3).best(false), 9);
        due("best(false) of eight", with(THREE, 8, 1).best(false), 8);
        x = with(ONE, 5, 2);
        refusedNumber(x, "best(false) of ten by one", x.best(false), 5);
        x = with(THREE + ";owner d worth 1", 1, 1);
        refusedNumber(x, "best(false) of four owners", x.best(false), 5);
        refusedNumber(x, "best(true) of four owners", x.best(true), 5);
        x = with(SIX, 1, 1);
        flood(x, 0);
        refusedNumber(x, "best(false) of six owners and no cell", x.best(false), 5);
    }

    @Sentence(of = "IV",
            says = "BEST: of all LAWFUL DRAWINGS (WATER CELLS no one's) the one than which none is BETTER,")
    private static void ivBestOfAllLawful() {
        WholeFields x = drawn("owner a worth 1;owner b worth 2", "aa aa");
        flood(x, 1);
        dueBest(x, "water is no one's, though it was drawn", false, 6, "b. bb");
        x = with("owner a worth soil;owner b worth 9-soil", 3, 1);
        x.cell(0, 0, 0, false);
        x.cell(1, 9, 0, false);
        x.cell(2, 0, 0, false);
        // b a b is torn: of the lawful ones a has 9, and b one end of 9.
        dueBest(x, "none that is torn", false, 18, "aab");
        x.keep(0, 1);
        dueBest(x, "none but with the kept one", false, 18, "baa");
        x.had(1, 10);
        dueBest(x, "less short ahead of more total", false, 18, "bbb");
        x = with("owner a worth 9;owner b worth 1;owner c worth 5", 3, 3);
        x.had(1, 1);
        x.had(2, 5);
        dueBest(x, "short ahead of total", false, 7 * 9 + 5 + 1, "aaa aaa abc");
        thick(x);
        // All squares of nine cells share the middle one: so there is one field alone, and c's is the least short.
        dueBest(x, "none but with squares", false, 45, "ccc ccc ccc");
        x.had(2, 0);
        x.had(1, 0);
        dueBest(x, "none but with squares", false, 81, "aaa aaa aaa");
    }

    @Sentence(of = "IV", says = "of such the one with the lesser OWNER of the first CELL where they differ.")
    private static void ivLesserOwnerOfTheFirstCell() {
        dueBest(with(THREE, 3, 3), "all alike", false, 9, "aaaaaaaaa");
        WholeFields x = with(THREE, 3, 1);
        x.had(1, 1);
        dueBest(x, "one for b: the last", false, 3, "aab");
        x.had(2, 1);
        dueBest(x, "one for b and one for c", false, 3, "abc");
        x.had(0, 1);
        x.had(1, 0);
        dueBest(x, "one for a and one for c", false, 3, "aac");
        x.keep(2, 0);
        dueBest(x, "the last is kept: one for b ahead of two for a", false, 3, "bca");
        x = with(THREE, 3, 3);
        x.had(1, 9);
        dueBest(x, "the last of all that is not c's", false, 9, "bbb bbb bbb");
        x.had(1, 0);
        x.had(2, 9);
        dueBest(x, "the last of all", false, 9, "ccc ccc ccc");
    }

    @Sentence(of = "IV", says = "CALM: of all LAWFUL ones the one of fewest such pairs, of such BEST as above.")
    private static void ivFewestPairs() {
        WholeFields x = with("owner a worth 9;owner b worth 1", 2, 1);
        dueBest(x, "the greatest total, one pair", false, 18, "aa");
        dueBest(x, "no pair, less total", true, 10, "ab");
        x.had(0, 18);
        dueBest(x, "no pair, though short", true, 10, "ab");
        x.keep(1, 0);
        dueBest(x, "kept", true, 10, "ba");
        x = with("owner a worth 9;owner b worth 1", 1, 1);
        dueBest(x, "one pair at least: the greatest total", true, 9, "a");
        x.had(1, 1);
        dueBest(x, "one pair at least: the least short", true, 1, "b");
        x.had(0, 9);
        dueBest(x, "one pair at least: as short, by one and by eight", true, 9, "a");
        x = with("owner a worth 1;owner b worth 9", 2, 1);
        dueBest(x, "no pair, though more pairs had a greater total", true, 10, "ab");
        dueBest(x, "the greatest total", false, 18, "bb");
        x = with("owner a worth 5;owner b worth 1", 1, 1);
        x.had(0, 9);
        dueBest(x, "one pair at least, the first less short", true, 5, "a");
        x = with(THREE, 3, 1);
        dueBest(x, "no pair of three", true, 3, "abc");
        x = with(THREE, 2, 1);
        dueBest(x, "two pairs of three at least", true, 2, "aa");
        x = with("owner a worth 0-1;owner b worth 0-2", 2, 1);
        dueBest(x, "below nothing a field without a cell isn't envied", true, -2, "aa");
    }

    // ---- promise 24

    @Sentence(of = "24", says = "BEST (or CALM), in place of the DRAWING: its TOTAL.")
    private static void p24ItsTotal() {
        WholeFields x = drawn("owner a worth 99*99*2;owner b worth 1", "bbb bbb bbb");
        dueBest(x, "the greatest total", false, 90000, "aaaaaaaaa");
        due("sum(0)", x.sum(0), 90000);
        due("sum(1)", x.sum(1), 0);
        x = drawn("owner a worth 0-99*99*2", "... ... ...");
        dueBest(x, "the least total", false, -90000, "aaaaaaaaa");
        dueBest(x, "the least total", true, -90000, "aaaaaaaaa");
        x = drawn(TWO, "ab");
        flood(x, 0, 1);
        dueBest(x, "of no cell", false, 0, "..");
        x.draw(0, 0);
        dueBest(x, "of no cell", true, 0, "..");
        dueBest(with(ONE, 1, 1), "of one cell", true, 5, "a");
        // A best of nine cells ahead leaves nothing in a best of fewer.
        x = with("owner a worth soil-5;owner b worth soil-4", 3, 3);
        for (int c = 0; c < 9; c++) {
            x.cell(c, 0, 0, false);
        }
        dueBest(x, "of nine", false, -36, "bbb bbb bbb");
        for (int cells = 1; cells <= 8; cells++) {
            x.ground(cells, 1);
            dueBest(x, "of fewer", false, cells, "b".repeat(cells));
        }
    }

    @Sentence(of = "24", says = "-2^31: 1 (no GROUND);")
    private static void p24WithoutAGround() {
        refusesNumber(NO_GROUND, "best(false)", x -> x.best(false), 1);
        refusesNumber(NO_GROUND, "best(true)", x -> x.best(true), 1);
        Maker[] four = {() -> with(SIX)};
        refusesNumber(four, "best(false) of six owners", x -> x.best(false), 1);
    }

    @Sentence(of = "24", says = "5 (not FEW);")
    private static void p24NotFew() {
        Maker[] many = {() -> drawn(TWO, "aabba aabbb"), () -> drawn(SIX, "abc d.f"),
            () -> kept(drawn(TWO, "aabba aabbb"), 0, 1), () -> drawn(THREE + ";owner d worth 1", "d")};
        refusesNumber(many, "best(false)", x -> x.best(false), 5);
        refusesNumber(many, "best(true)", x -> x.best(true), 5);
    }

    @Sentence(of = "24", says = "6 (none is LAWFUL).")
    private static void p24NoneIsLawful() {
        Maker[] none = {() -> kept(kept(kept(drawn(TWO, "aab"), 0, 0), 1, 1), 2, 0), () -> thick(drawn(TWO, "aabba")),
            FoundBoundsTest::keptWater, () -> thick(kept(drawn(TWO, "ab ab"), 0, 1), 1)};
        refusesNumber(none, "best(false)", x -> x.best(false), 6);
        refusesNumber(none, "best(true)", x -> x.best(true), 6);
        WholeFields x = thick(kept(drawn(TWO, "ab ab"), 0, 1));
        dueBest(x, "one lawful one alone", false, 20, "bb bb");
    }

    private static WholeFields thick(WholeFields x, int keptByA) {
        x.keep(keptByA, 0);
        return thick(x);
    }

    private static WholeFields keptWater() {
        WholeFields x = kept(drawn(TWO, "ab"), 1, 1);
        flood(x, 1);
        return x;
    }
}
