/** The edges that Terms II and promises 6 to 12 name: the ground, its cells, doors, kept cells, hads and values. */
final class GroundBoundsTest extends Checks {
    private static final State[] NO_GROUND = State.WITHOUT_GROUND;
    private static final State[] GROUND = State.WITH_GROUND;

    public static void main(String[] args) {
        playSentences(GroundBoundsTest.class);
    }

    private static void dueValue(String worth, int want) {
        WholeFields x = with("owner a worth " + worth, 1, 1);
        due("value of " + worth, x.value(0, 0), want);
    }

    // ---- Terms II: the cells

    @Sentence(of = "II", says = "GROUND: wide 1 .. 8 times high 1 .. 8 CELLS (y times wide and x),")
    private static void iiCellsAreNumberedByRows() {
        for (int wide = 1; wide <= 8; wide++) {
            for (int high = 1; high <= 8; high++) {
                WholeFields x = with("owner a worth far", wide, high);
                int last = wide * high - 1;
                due("value(0, 0)", x.value(0, 0), 0);
                due("value of the first row's end", x.value(0, wide - 1), wide - 1);
                due("value of the last row's begin", x.value(0, last + 1 - wide), high - 1);
                due("value of the last cell", x.value(0, last), wide + high - 2);
                due("value behind the last cell", x.value(0, last + 1), NO_NUMBER);
            }
        }
    }

    @Sentence(of = "II",
            says = "each of a soil (0 .. 9; 5 at first), wet (0 .. 9; 0 at first), WATER or not (not at first).")
    private static void iiCellsAtFirst() {
        WholeFields x = with("owner a worth soil * 10 + wet; owner b worth water", 8, 8);
        for (int c = 0; c < 64; c++) {
            due("value(0, " + c + ")", x.value(0, c), 50);
            due("value(1, " + c + ")", x.value(1, c), 0);
        }
        due("count(2)", x.count(2), 0);
    }

    @Sentence(of = "II", says = "BESIDE: by a side.")
    private static void iiBesideByASide() {
        // Of each cell in turn as water: beside it are those a step away, over no row's end and no corner.
        WholeFields x = with("owner a worth water", 4, 3);
        for (int w = 0; w < 12; w++) {
            x.cell(w, 5, 0, true);
            for (int c = 0; c < 12; c++) {
                int steps = Math.abs(c % 4 - w % 4) + Math.abs(c / 4 - w / 4);
                due("value(0, " + c + ") by water at " + w, x.value(0, c), steps == 1 ? 1 : 0);
            }
            x.cell(w, 5, 0, false);
        }
    }

    @Sentence(of = "II", says = "BESIDE: by a side.")
    private static void iiBesideInTheWidestGround() {
        WholeFields x = with("owner a worth water", 8, 8);
        int[] edges = {0, 7, 8, 15, 55, 56, 63};
        int[][] beside = {{1, 8}, {6, 15}, {0, 9, 16}, {7, 14, 23}, {47, 54, 63}, {48, 57}, {55, 62}};
        for (int i = 0; i < edges.length; i++) {
            x.cell(edges[i], 5, 0, true);
            int found = 0;
            for (int c = 0; c < 64; c++) {
                found += x.value(0, c);
            }
            due("cells beside " + edges[i], found, beside[i].length);
            for (int c : beside[i]) {
                due("value(0, " + c + ") by water at " + edges[i], x.value(0, c), 1);
            }
            x.cell(edges[i], 5, 0, false);
        }
    }

    @Sentence(of = "II", says = "Each OWNER has a door at a CELL (CELL 0 at first).")
    private static void iiDoorsAtFirst() {
        WholeFields x = with(SIX.replace("worth 1", "worth far"), 8, 8);
        for (int o = 0; o < 6; o++) {
            due("value(" + o + ", 0)", x.value(o, 0), 0);
            due("value(" + o + ", 63)", x.value(o, 63), 14);
        }
    }

    @Sentence(of = "II", says = "For an OWNER and a CELL: soil and wet are the CELL's;")
    private static void iiSoilAndWetAreTheCells() {
        WholeFields x = with("owner a worth soil * 10 + wet; owner b worth wet * 10 + soil", 2, 1);
        x.cell(1, 0, 9, true);
        due("value(0, 0)", x.value(0, 0), 50);
        due("value(0, 1)", x.value(0, 1), 9);
        due("value(1, 1)", x.value(1, 1), 90);
        x.cell(1, 9, 0, false);
        due("value(0, 1)", x.value(0, 1), 90);
    }

    @Sentence(of = "II", says = "far: how many steps from CELL to CELL beside it from the door (straight over all);")
    private static void iiFarIsStraightOverAll() {
        WholeFields x = with("owner a worth far; owner b worth far", 3, 2);
        x.door(1, 2);
        x.cell(1, 5, 0, true);
        x.cell(4, 5, 0, true);
        x.draw(1, 1);
        int[] a = {0, 1, 2, 1, 2, 3};
        int[] b = {2, 1, 0, 3, 2, 1};
        for (int c = 0; c < 6; c++) {
            due("value(0, " + c + ")", x.value(0, c), a[c]);
            due("value(1, " + c + "): not over the row's end", x.value(1, c), b[c]);
        }
        x.door(0, 1);
        due("value(0, 1): at the door, a water one", x.value(0, 1), 0);
    }

    @Sentence(of = "II", says = "water: 1 if a CELL beside it is WATER, else 0.")
    private static void iiWaterIsOneAtMost() {
        WholeFields x = with("owner a worth water", 3, 3);
        due("value(0, 4) of none", x.value(0, 4), 0);
        x.cell(4, 5, 0, true);
        due("value(0, 4): not for itself", x.value(0, 4), 0);
        for (int corner : new int[] {0, 2, 6, 8}) {
            x.cell(corner, 5, 0, true);
        }
        due("value(0, 4): not for corners", x.value(0, 4), 0);
        due("value(0, 1): of three", x.value(0, 1), 1);
        x.cell(1, 5, 0, true);
        due("value(0, 4): of a water cell itself", x.value(0, 4), 1);
        x.cell(1, 5, 0, false);
        due("value(0, 4): of none any more", x.value(0, 4), 0);
    }

    // ---- Terms II: the value

    @Sentence(of = "II", says = "VALUE: the WORTH, each sum, difference and product being cut to -10,000 .. 10,000")
    private static void iiEachStepIsCut() {
        dueValue("99*99+99+99+1", 10000);
        dueValue("99*99+99+99+2", 10000);
        dueValue("99*99+99+99", 9999);
        dueValue("99*99+99*99", 10000);
        dueValue("0-99*99-99-99-1", -10000);
        dueValue("0-99*99-99-99-2", -10000);
        dueValue("0-99*99-99-99", -9999);
        dueValue("50*50*4", 10000);
        dueValue("99*(99+2)", 9999);
        dueValue("73*(99+38)", 10000);
        dueValue("99*99*2", 10000);
        dueValue("(0-50)*50*4", -10000);
        dueValue("(0-99)*99*2", -10000);
        dueValue("99*99*99*99*99*99", 10000);
        dueValue("(0-99*99*2)*(99*99*2)", -10000);
        dueValue("(0-99*99*2)*(0-99*99*2)", 10000);
        dueValue("(0-99*99*2)-99*99*2", -10000);
        dueValue("99*99*2-(0-99*99*2)", 10000);
    }

    @Sentence(of = "II", says = "as soon as it is reckoned (from the left).")
    private static void iiCutAsSoonAsItIsReckoned() {
        dueValue("99*99+99*99-1", 9999);
        dueValue("99*99-1+99*99", 10000);
        dueValue("0-99*99-99*99+1", -9999);
        dueValue("99*99*2*0", 0);
        dueValue("99*99*2-99*99*2", 0);
        dueValue("99*99+99*99-99*99-99*99", -9602);
        dueValue("(99*99+99*99)-(99*99+99*99)", 0);
        dueValue("9-3-2", 4);
        dueValue("9-3+2", 8);
        dueValue("9-(3+2)", 4);
        dueValue("least(99*99*2,0-99*99*2)+1", -9999);
        dueValue("most(99*99*2,0-99*99*2)-1", 9999);
    }

    // ---- Terms II: drawings and their sums

    @Sentence(of = "II", says = "A DRAWING: of each CELL its OWNER or none. FIELD: all CELLS of an OWNER.")
    private static void iiDrawingOfEachCell() {
        WholeFields x = with("owner a worth 1; owner b worth 1", 8, 8);
        for (int c = 0; c < 64; c++) {
            due("whose(" + c + ") at first", x.whose(c), -2);
            x.draw(c, c % 2);
        }
        due("sum(0) of every other cell", x.sum(0), 32);
        due("sum(1) of every other cell", x.sum(1), 32);
        due("count(4)", x.count(4), 0);
    }

    @Sentence(of = "II", says = "SUM of an OWNER: VALUES of its FIELD together; TOTAL: of all OWNERS.")
    private static void iiSumOfNothingAndOfAll() {
        WholeFields x = with("owner a worth 99*99*2; owner b worth 0-99*99*2", 8, 8);
        due("sum(0) of no cell", x.sum(0), 0);
        due("total(0) of no cell", x.total(0), 0);
        for (int c = 0; c < 64; c++) {
            x.draw(c, 0);
        }
        due("sum(0) of all cells, which is not cut", x.sum(0), 640000);
        due("total(0)", x.total(0), 640000);
        for (int c = 0; c < 63; c++) {
            x.draw(c, 1);
        }
        due("sum(0) of the last cell", x.sum(0), 10000);
        due("sum(1)", x.sum(1), -630000);
        due("total(0)", x.total(0), -620000);
        x.draw(63, 1);
        due("sum(1)", x.sum(1), -640000);
    }

    @Sentence(of = "II", says = "KEPT: a CELL that must be an OWNER's.")
    private static void iiKeptIsOfTheGroundNotOfTheDrawing() {
        WholeFields x = with(TWO, 2, 1);
        x.keep(1, 1);
        due("whose(1)", x.whose(1), -2);
        taken(x, "draw of a kept cell for another", x.draw(1, 0));
        due("count(3)", x.count(3), 1);
        due("sum(1)", x.sum(1), 0);
    }

    @Sentence(of = "II", says = "HAD: of each OWNER a number told (0 at first).")
    private static void iiHadAtFirst() {
        WholeFields x = with(SIX.replace("worth 1", "worth 0"), 1, 1);
        due("total(1)", x.total(1), 0);
        due("total(5)", x.total(5), 6);
        for (int o = 0; o < 6; o++) {
            x.had(o, 1);
            due("total(1)", x.total(1), o + 1);
            due("total(5)", x.total(5), 5 - o);
        }
    }

    @Sentence(of = "II", says = "SHORT: of an OWNER how much its SUM is below HAD, 0 at least; together: of all.")
    private static void iiShortAtItsEdge() {
        WholeFields x = drawn("owner a worth 5; owner b worth 0 - 5", "ab");
        int[] hads = {0, 4, 5, 6, 1000000};
        int[] shorts = {0, 0, 0, 1, 999995};
        for (int i = 0; i < hads.length; i++) {
            x.had(0, hads[i]);
            due("total(1) of had " + hads[i], x.total(1), shorts[i] + 5);
        }
        x.had(1, 1);
        due("total(1): more of one is not set against less of another", x.total(1), 999995 + 6);
        x.had(0, 0);
        due("total(1)", x.total(1), 6);
    }

    // ---- promise 6

    @Sentence(of = "6", says = "how many CELLS.")
    private static void p06HowManyCells() {
        WholeFields x = with(TWO);
        for (int wide = 1; wide <= 8; wide++) {
            for (int high = 1; high <= 8; high++) {
                due("ground(" + wide + ", " + high + ")", x.ground(wide, high), wide * high);
                due("trouble()", x.trouble(), 0);
                due("count(1)", x.count(1), wide * high);
                due("whose of the last cell", x.whose(wide * high - 1), -2);
                due("whose behind the last cell", x.whose(wide * high), -1);
            }
        }
    }

    @Sentence(of = "6",
            says = "A GROUND (CELLS as at first, no one's, none KEPT, doors at CELL 0; HAD, LIMIT, WIDTH as at first; "
                    + "no corners told; barred(), part() as ahead of any):")
    private static void p06AllAsAtFirst() {
        for (int[] size : new int[][] {{3, 2}, {2, 3}, {1, 1}, {4, 3}}) {
            for (State state : new State[] {State.LAWFUL, State.UNLAWFUL}) {
                WholeFields x = state.make();
                WholeFields y = State.BOOKED.make();
                x.set(0, 2);
                due("ground", x.ground(size[0], size[1]), size[0] * size[1]);
                due("ground", y.ground(size[0], size[1]), size[0] * size[1]);
                dueAlike("behind a new ground in the state " + state, x, y);
            }
        }
    }

    @Sentence(of = "6", says = "A GROUND (CELLS as at first, no one's,")
    private static void p06SidesOfTheNewGroundAlone() {
        // Every cell unlike those beside it: each side but the rim's is a border, however wide the ground ahead was.
        for (int former = 1; former <= 8; former++) {
            for (int wide = 1; wide <= 8; wide++) {
                WholeFields x = with(TWO, former, 8);
                x.ground(wide, 3);
                for (int c = 0; c < 3 * wide; c++) {
                    x.draw(c, (c % wide + c / wide) % 2);
                }
                due("total(6) of wide " + wide + " behind " + former, x.total(6), 2 * wide + 3 * (wide - 1));
            }
        }
    }

    @Sentence(of = "6", says = "barred(), part() as ahead of any):")
    private static void p06BarredAndPartAsAheadOfAny() {
        WholeFields x = State.LAWFUL.make();
        due("barred()", x.barred(), -2);
        due("part()", x.part(), 4);
        x.ground(3, 2);
        due("barred() of a new ground", x.barred(), -1);
        due("part() of a new ground", x.part(), -1);
        x = State.UNLAWFUL.make();
        due("barred()", x.barred(), 1);
        x.ground(3, 2);
        due("barred() of a new ground", x.barred(), -1);
    }

    @Sentence(of = "6", says = "NONE: 1 (no BOOK);")
    private static void p06WithoutABook() {
        State[] noBook = {State.NEW};
        refusesNone(noBook, "ground(1, 1)", x -> x.ground(1, 1), 1);
        refusesNone(noBook, "ground(8, 8)", x -> x.ground(8, 8), 1);
        refusesNone(noBook, "ground(0, 0)", x -> x.ground(0, 0), 1);
        refusesNone(noBook, "ground(9, 9)", x -> x.ground(9, 9), 1);
        WholeFields x = new WholeFields();
        Texts.book(x, "owner a worth 100");
        refused(x, "ground(1, 1) behind a faulty book alone", x.ground(1, 1), 1);
    }

    @Sentence(of = "6", says = "1 (no BOOK); 2.")
    private static void p06SidesBeyondTheEnds() {
        State[] booked = {State.BOOKED, State.LAWFUL, State.UNLAWFUL, State.FAULTED};
        for (int bad : new int[] {0, 9, -1, 64, 256, 257, NO_NUMBER, HIGHEST}) {
            refusesNone(booked, "ground(" + bad + ", 1)", x -> x.ground(bad, 1), 2);
            refusesNone(booked, "ground(8, " + bad + ")", x -> x.ground(8, bad), 2);
            refusesNone(booked, "ground(" + bad + ", " + bad + ")", x -> x.ground(bad, bad), 2);
        }
    }

    // ---- promise 7

    @Sentence(of = "7", says = "Soil, wet of a CELL, and whether it is WATER: true;")
    private static void p07FirstAndLastCell() {
        WholeFields x = with("owner a worth soil * 10 + wet", 8, 8);
        for (int c : new int[] {0, 63}) {
            for (int soil : new int[] {0, 9}) {
                for (int wet : new int[] {0, 9}) {
                    taken(x, "cell(" + c + ", " + soil + ", " + wet + ", true)", x.cell(c, soil, wet, true));
                    due("value(0, " + c + ")", x.value(0, c), soil * 10 + wet);
                    due("count(2)", x.count(2), 1);
                    taken(x, "cell again", x.cell(c, soil, wet, true));
                    due("count(2)", x.count(2), 1);
                    taken(x, "cell(" + c + ", " + soil + ", " + wet + ", false)", x.cell(c, soil, wet, false));
                    due("count(2)", x.count(2), 0);
                }
            }
        }
        due("value(0, 1) stays", x.value(0, 1), 50);
        due("value(0, 62) stays", x.value(0, 62), 50);
    }

    @Sentence(of = "7", says = "and whether it is WATER: true;")
    private static void p07WaterLeavesTheRest() {
        WholeFields x = drawn(TWO, "ab");
        x.keep(0, 0);
        taken(x, "cell(0, 5, 0, true)", x.cell(0, 5, 0, true));
        due("whose(0)", x.whose(0), 0);
        due("count(3)", x.count(3), 1);
        due("sum(0)", x.sum(0), 5);
        for (int c = 0; c < 2; c++) {
            x.cell(c, 5, 0, true);
        }
        due("count(2) of all", x.count(2), 2);
    }

    @Sentence(of = "7", says = "false: 1; 2.")
    private static void p07NoSuchCell() {
        refusesFalse(NO_GROUND, "cell(0, 5, 0, false)", x -> x.cell(0, 5, 0, false), 1);
        refusesFalse(NO_GROUND, "cell(0, 10, 0, true)", x -> x.cell(0, 10, 0, true), 1);
        for (int c : new int[] {-1, 6, 64, NO_NUMBER, HIGHEST}) {
            refusesFalse(GROUND, "cell(" + c + ", 1, 1, true)", x -> x.cell(c, 1, 1, true), 1);
            refusesFalse(GROUND, "cell(" + c + ", 10, 1, true)", x -> x.cell(c, 10, 1, true), 1);
            refusesFalse(GROUND, "cell(" + c + ", 1, -1, true)", x -> x.cell(c, 1, -1, true), 1);
        }
    }

    @Sentence(of = "7", says = "1; 2.")
    private static void p07SoilAndWetBeyondTheirEnds() {
        for (int bad : new int[] {-1, 10, 100, NO_NUMBER, HIGHEST}) {
            for (int c : new int[] {0, 5}) {
                refusesFalse(GROUND, "cell(" + c + ", " + bad + ", 1, true)", x -> x.cell(c, bad, 1, true), 2);
                refusesFalse(GROUND, "cell(" + c + ", 1, " + bad + ", true)", x -> x.cell(c, 1, bad, true), 2);
                refusesFalse(GROUND, "cell(" + c + ", 1, " + bad + ", false)", x -> x.cell(c, 1, bad, false), 2);
            }
        }
    }

    // ---- promise 8

    @Sentence(of = "8", says = "The door of an OWNER is at a CELL: true;")
    private static void p08FirstAndLast() {
        WholeFields x = with(SIX.replace("worth 1", "worth far"), 8, 8);
        for (int o : new int[] {0, 5}) {
            for (int c : new int[] {63, 0, 63}) {
                taken(x, "door(" + o + ", " + c + ")", x.door(o, c));
                due("value(" + o + ", 0)", x.value(o, 0), c == 0 ? 0 : 14);
                due("value(" + o + ", 63)", x.value(o, 63), c == 0 ? 14 : 0);
                taken(x, "door again", x.door(o, c));
            }
        }
        due("value(1, 63): another's door stays", x.value(1, 63), 14);
        x.cell(9, 5, 0, true);
        x.keep(9, 1);
        taken(x, "door at a water cell that is kept by another", x.door(0, 9));
        due("value(0, 0)", x.value(0, 0), 2);
    }

    @Sentence(of = "8", says = "false: 1.")
    private static void p08NoneSuch() {
        refusesFalse(NO_GROUND, "door(0, 0)", x -> x.door(0, 0), 1);
        for (int o : new int[] {-1, 2, 6, NO_NUMBER, HIGHEST}) {
            refusesFalse(GROUND, "door(" + o + ", 0)", x -> x.door(o, 0), 1);
        }
        for (int c : new int[] {-1, 6, 64, NO_NUMBER, HIGHEST}) {
            refusesFalse(GROUND, "door(0, " + c + ")", x -> x.door(0, c), 1);
            refusesFalse(GROUND, "door(1, " + c + ")", x -> x.door(1, c), 1);
        }
    }

    // ---- promise 9

    @Sentence(of = "9", says = "A CELL is KEPT by an OWNER (NONE: it isn't): true;")
    private static void p09FirstAndLast() {
        WholeFields x = with(SIX, 8, 8);
        for (int c : new int[] {0, 63}) {
            for (int o : new int[] {0, 5, 5}) {
                taken(x, "keep(" + c + ", " + o + ")", x.keep(c, o));
                due("count(3)", x.count(3), 1);
                x.grow();
                due("whose(" + c + ")", x.whose(c), o);
            }
            taken(x, "keep(" + c + ", NONE)", x.keep(c, -1));
            due("count(3)", x.count(3), 0);
            taken(x, "keep(" + c + ", NONE) again", x.keep(c, -1));
        }
        for (int c = 0; c < 64; c++) {
            x.keep(c, c % 6);
        }
        due("count(3) of all", x.count(3), 64);
    }

    @Sentence(of = "9", says = "false: 1.")
    private static void p09NoneSuch() {
        refusesFalse(NO_GROUND, "keep(0, 0)", x -> x.keep(0, 0), 1);
        refusesFalse(NO_GROUND, "keep(0, NONE)", x -> x.keep(0, -1), 1);
        for (int c : new int[] {-1, 6, 64, NO_NUMBER, HIGHEST}) {
            refusesFalse(GROUND, "keep(" + c + ", 0)", x -> x.keep(c, 0), 1);
            refusesFalse(GROUND, "keep(" + c + ", NONE)", x -> x.keep(c, -1), 1);
        }
        for (int o : new int[] {-2, 2, 6, NO_NUMBER, HIGHEST}) {
            refusesFalse(GROUND, "keep(0, " + o + ")", x -> x.keep(0, o), 1);
            refusesFalse(GROUND, "keep(3, " + o + ")", x -> x.keep(3, o), 1);
        }
    }

    // ---- promise 10

    @Sentence(of = "10", says = "HAD of an OWNER (0 .. 1,000,000): true;")
    private static void p10BothEnds() {
        WholeFields x = with(SIX, 1, 1);
        for (int o : new int[] {0, 5}) {
            taken(x, "had(" + o + ", 1000000)", x.had(o, 1000000));
            due("total(1)", x.total(1), 1000000);
            due("votes(" + o + ")", x.votes(o), 0);
            taken(x, "had(" + o + ", 999999)", x.had(o, 999999));
            due("total(1)", x.total(1), 999999);
            taken(x, "had(" + o + ", 1)", x.had(o, 1));
            due("total(1)", x.total(1), 1);
            taken(x, "had(" + o + ", 0)", x.had(o, 0));
            due("total(1)", x.total(1), 0);
            due("votes(" + o + ")", x.votes(o), 1);
        }
    }

    @Sentence(of = "10", says = "false: 1; 2.")
    private static void p10Refused() {
        refusesFalse(NO_GROUND, "had(0, 0)", x -> x.had(0, 0), 1);
        refusesFalse(NO_GROUND, "had(0, -1)", x -> x.had(0, -1), 1);
        for (int o : new int[] {-1, 2, 6, NO_NUMBER, HIGHEST}) {
            refusesFalse(GROUND, "had(" + o + ", 9)", x -> x.had(o, 9), 1);
            refusesFalse(GROUND, "had(" + o + ", -1)", x -> x.had(o, -1), 1);
            refusesFalse(GROUND, "had(" + o + ", 1000001)", x -> x.had(o, 1000001), 1);
        }
        for (int v : new int[] {-1, 1000001, NO_NUMBER, HIGHEST}) {
            refusesFalse(GROUND, "had(0, " + v + ")", x -> x.had(0, v), 2);
            refusesFalse(GROUND, "had(1, " + v + ")", x -> x.had(1, v), 2);
        }
    }

    // ---- promise 11

    @Sentence(of = "11", says = "WIDTH (what 0; 1 or 2), LIMIT (1): true;")
    private static void p11BothEnds() {
        WholeFields x = with(ONE, 1, 1);
        for (int width : new int[] {2, 2, 1, 1}) {
            taken(x, "set(0, " + width + ")", x.set(0, width));
            due("count(6)", x.count(6), width);
            due("count(7)", x.count(7), 20);
        }
        for (int limit : new int[] {0, 0, 1, 19, 20}) {
            taken(x, "set(1, " + limit + ")", x.set(1, limit));
            due("count(7)", x.count(7), limit);
            due("count(6)", x.count(6), 1);
        }
    }

    @Sentence(of = "11", says = "false: 1 (what, no GROUND, too);")
    private static void p11NoSuchWhat() {
        refusesFalse(NO_GROUND, "set(0, 1)", x -> x.set(0, 1), 1);
        refusesFalse(NO_GROUND, "set(1, 20)", x -> x.set(1, 20), 1);
        refusesFalse(NO_GROUND, "set(1, 21)", x -> x.set(1, 21), 1);
        for (int what : new int[] {-1, 2, 6, 7, NO_NUMBER, HIGHEST}) {
            refusesFalse(GROUND, "set(" + what + ", 1)", x -> x.set(what, 1), 1);
            refusesFalse(GROUND, "set(" + what + ", 99)", x -> x.set(what, 99), 1);
        }
    }

    @Sentence(of = "11", says = "false: 1 (what, no GROUND, too); 2.")
    private static void p11BeyondTheEnds() {
        for (int v : new int[] {0, 3, -1, NO_NUMBER, HIGHEST}) {
            refusesFalse(GROUND, "set(0, " + v + ")", x -> x.set(0, v), 2);
        }
        for (int v : new int[] {-1, 21, NO_NUMBER, HIGHEST}) {
            refusesFalse(GROUND, "set(1, " + v + ")", x -> x.set(1, v), 2);
        }
    }

    // ---- promise 12

    @Sentence(of = "12", says = "VALUE;")
    private static void p12FirstAndLast() {
        WholeFields x = with("owner a worth 1;owner b worth 2;owner c worth 3;owner d worth 4;owner e worth 5;"
                + "owner f worth 6", 8, 8);
        for (int o = 0; o < 6; o++) {
            due("value(" + o + ", 0)", x.value(o, 0), o + 1);
            due("value(" + o + ", 63)", x.value(o, 63), o + 1);
        }
        x = with("owner a worth 0 - 99*99*2", 1, 1);
        due("value(0, 0)", x.value(0, 0), -10000);
    }

    @Sentence(of = "12", says = "-2^31 for none such.")
    private static void p12NoneSuch() {
        quiet(NO_GROUND, "value(0, 0)", x -> x.value(0, 0), NO_NUMBER);
        for (int o : new int[] {-1, 2, 6, NO_NUMBER, HIGHEST}) {
            quiet(GROUND, "value(" + o + ", 0)", x -> x.value(o, 0), NO_NUMBER);
        }
        for (int c : new int[] {-1, 6, 64, NO_NUMBER, HIGHEST}) {
            quiet(GROUND, "value(0, " + c + ")", x -> x.value(0, c), NO_NUMBER);
        }
    }
}
