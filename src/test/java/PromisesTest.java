/** Each promise of the document by itself: ordinary inputs, and wrong inputs in one state after another. */
final class PromisesTest extends Checks {
    public static void main(String[] args) {
        begin("PromisesTest");
        bookPromises();
        groundPromises();
        drawingPromises();
        foundPromises();
        borderPromises();
        end();
    }

    private static void bookPromises() {
        aNewObject();
        feed();
        book();
        foundBehindBook();
        faults();
        soundBooks();
        fault();
        where();
    }

    private static void groundPromises() {
        withoutGround();
        ground();
        cell();
        door();
        keep();
        had();
        set();
        value();
    }

    private static void drawingPromises() {
        draw();
        whose();
        sum();
        total();
        bars();
        barred();
        envies();
        votes();
    }

    private static void foundPromises() {
        grow();
        better();
        betterTies();
        can();
        best();
        calm();
    }

    private static void borderPromises() {
        stakes();
        stake();
        within();
        split();
        part();
        corner();
        clear();
        ditches();
        count();
        trouble();
    }

    private static void aNewObject() {
        about("1 a new object");
        WholeFields x = new WholeFields();
        for (int what = 0; what <= 8; what++) {
            due("count(" + what + ")", x.count(what), 0);
        }
        due("trouble()", x.trouble(), 0);
        due("fault()", x.fault(), 0);
        due("where()", x.where(), -1);
        due("barred()", x.barred(), -1);
        due("part()", x.part(), -1);
        due("clear()", x.clear(), 0);
        due("whose(0)", x.whose(0), -1);
        due("sum(0)", x.sum(0), NO_NUMBER);
        due("value(0, 0)", x.value(0, 0), NO_NUMBER);
        due("stake(0, 0) throws", hasNoStake(x, 0, 0), true);
        due("trouble() as none of these is refused", x.trouble(), 0);
        refused(x, "ground(1, 1)", x.ground(1, 1), 1);
        refused(x, "cell", x.cell(0, 5, 0, false), 1);
        refused(x, "door", x.door(0, 0), 1);
        refused(x, "keep", x.keep(0, -1), 1);
        refused(x, "had", x.had(0, 0), 1);
        refused(x, "votes", x.votes(0), 1);
        due("NONE", WholeFields.NONE, -1);
    }

    private static void feed() {
        about("2 feed");
        WholeFields x = new WholeFields();
        due("feed", x.feed(0x6F776E65, 0x72206120, 0x776F7274, 0x68203720, 0x20202020), 20);
        due("book(15)", x.book(15), 1);
        x.ground(1, 1);
        due("value(0, 0), of the bytes' order", x.value(0, 0), 7);
        refused(x, "ground(0, 0)", x.ground(0, 0), 2);
        for (int i = 1; i <= 25; i++) {
            due("feed", x.feed(-1, 0, 1, 2, 3), 20 * i);
        }
        due("feed of more than 500", x.feed(0, 0, 0, 0, 0), -1);
        due("count(8)", x.count(8), 500);
        due("trouble(), which feed leaves alone", x.trouble(), 2);
        refused(x, "book(500)", x.book(500), 4);
        due("where(), of a byte above 127", x.where(), 0);
        due("feed to the empty tape", x.feed(0, 0, 0, 0, 0), 20);
    }

    private static void book() {
        about("3 book");
        WholeFields x = new WholeFields();
        Texts.feed(x, "owner a worth 12; owner b worth 3");
        refused(x, "book(-1)", x.book(-1), 2);
        refused(x, "book(41)", x.book(41), 2);
        due("count(8): the tape stays", x.count(8), 40);
        due("book(15), a part of it", x.book(15), 1);
        due("trouble()", x.trouble(), 0);
        due("count(8): the tape is empty", x.count(8), 0);
        due("count(0)", x.count(0), 1);
        x.ground(2, 2);
        due("value(0, 0)", x.value(0, 0), 1);
        x.draw(0, 0);
        x.corner(0);
        refused(x, "book of a fault", Texts.book(x, "owner b worth 3; owner b worth 4"), 4);
        due("count(8): the tape is empty", x.count(8), 0);
        due("count(0): the book stays", x.count(0), 1);
        due("value(0, 0): the book stays", x.value(0, 0), 1);
        due("whose(0): the drawing stays", x.whose(0), 0);
        due("count(5): the corners stay", x.count(5), 1);
        x.had(0, 7);
        due("book of two", Texts.book(x, TWO), 2);
        due("count(1): no ground", x.count(1), 0);
        due("whose(0): no ground", x.whose(0), -1);
        due("clear(): no corners without a ground", x.clear(), 0);
        refused(x, "bars()", x.bars(), 1);
        due("barred() behind a bars() that is refused", x.barred(), -1);
    }

    /** What bars() and split() found on a ground goes with it, but not with a book that is refused. */
    private static void foundBehindBook() {
        about("18 and 29 behind book");
        for (String rows : new String[] {"aab", "aa.", "a.a"}) {
            WholeFields x = drawn(TWO, rows.equals("a.a") ? "aab" : rows);
            x.split(0, 5, 5);
            redraw(x, rows);
            x.bars();
            int barred = rows.equals("aab") ? -2 : rows.indexOf('.');
            due("barred() of " + rows, x.barred(), barred);
            due("part() of " + rows, x.part(), 1);
            refused(x, "book of a fault", Texts.book(x, "owner a worth 100"), 4);
            due("barred() behind a faulty book", x.barred(), barred);
            due("part() behind a faulty book", x.part(), 1);
            refused(x, "book(1) of an empty tape", x.book(1), 2);
            due("barred() behind a book refused by 2", x.barred(), barred);
            due("part() behind a book refused by 2", x.part(), 1);
            due("book of two", Texts.book(x, TWO), 2);
            due("barred() behind a book", x.barred(), -1);
            due("part() behind a book", x.part(), -1);
            refused(x, "ground(0, 1)", x.ground(0, 1), 2);
            refused(x, "bars()", x.bars(), 1);
            refused(x, "split(0, 5, 5)", x.split(0, 5, 5), 1);
            due("barred() behind refused calls", x.barred(), -1);
            due("part() behind refused calls", x.part(), -1);
            due("ground(2, 1)", x.ground(2, 1), 2);
            due("barred() of a new ground", x.barred(), -1);
            due("part() of a new ground", x.part(), -1);
        }
    }

    private static void withoutGround() {
        about("7 to 32 without a ground");
        dueNoneSuch(new WholeFields());
        dueNoneSuch(with(TWO));
        // The owners of an earlier ground had fields there, with sums and stakes: a new book ends them.
        WholeFields x = drawn(TWO, "aab aab");
        x.had(0, 1);
        x.corner(2);
        due("book of two behind a ground", Texts.book(x, TWO), 2);
        dueNoneSuch(x);
        // A book that is refused leaves the ground, and with it all that is asked of owners.
        x = drawn(TWO, "aab aab");
        refused(x, "book of a fault", Texts.book(x, "owner a worth 100"), 4);
        taken(x, "had(0, 20)", x.had(0, 20));
        due("sum(0)", x.sum(0), 20);
        due("envies(1, 0)", x.envies(1, 0), 1);
        due("votes(0)", x.votes(0), 1);
        due("stakes(0)", x.stakes(0), 4);
        due("within(1)", x.within(1), 2);
        due("split(0, 10, 10)", x.split(0, 10, 10), 2);
    }

    /** Every call that asks for a cell, an owner or a corner: 1 stands ahead of all other numbers. */
    private static void dueNoneSuch(WholeFields x) {
        refused(x, "cell(0, 5, 0, false)", x.cell(0, 5, 0, false), 1);
        refused(x, "cell(0, 10, 0, false)", x.cell(0, 10, 0, false), 1);
        refused(x, "door(0, 0)", x.door(0, 0), 1);
        refused(x, "keep(0, 0)", x.keep(0, 0), 1);
        refused(x, "keep(0, NONE)", x.keep(0, -1), 1);
        refused(x, "had(0, 0)", x.had(0, 0), 1);
        refused(x, "had(1, -1)", x.had(1, -1), 1);
        refused(x, "set(1, 5)", x.set(1, 5), 1);
        refused(x, "set(1, 21)", x.set(1, 21), 1);
        due("value(0, 0)", x.value(0, 0), NO_NUMBER);
        refused(x, "draw(0, 0)", x.draw(0, 0), 1);
        refused(x, "draw(0, NONE)", x.draw(0, -1), 1);
        due("whose(0)", x.whose(0), -1);
        due("sum(0)", x.sum(0), NO_NUMBER);
        due("sum(1)", x.sum(1), NO_NUMBER);
        refused(x, "envies(0, 1)", x.envies(0, 1), 1);
        refused(x, "envies(1, 0)", x.envies(1, 0), 1);
        refused(x, "votes(0)", x.votes(0), 1);
        refused(x, "votes(1)", x.votes(1), 1);
        refused(x, "better(101)", x.better(101), 1);
        refused(x, "stakes(0)", x.stakes(0), 1);
        due("stake(0, 0) throws", hasNoStake(x, 0, 0), true);
        refused(x, "within(0)", x.within(0), 1);
        refused(x, "split(0, 0, 5)", x.split(0, 0, 5), 1);
        refused(x, "split(0, 5, 0)", x.split(0, 5, 0), 1);
        refused(x, "corner(0)", x.corner(0), 1);
    }

    private static void dueFault(String text, int fault, int place) {
        WholeFields x = new WholeFields();
        refused(x, "book of '" + text + "'", Texts.book(x, text), 4);
        due("fault() of '" + text + "'", x.fault(), fault);
        due("where() of '" + text + "'", x.where(), place);
        due("count(0) of '" + text + "'", x.count(0), 0);
    }

    private static void faults() {
        about("3 to 5 faults");
        dueFault("", 1, 0);
        dueFault("   ", 1, 3);
        dueFault("owner", 1, 5);
        dueFault("owner a", 1, 7);
        dueFault("owner a worth", 1, 13);
        dueFault("owner a worth 1;", 1, 16);
        dueFault("owner a worth 1 ; ", 1, 18);
        dueFault("; owner a worth 1", 1, 0);
        dueFault("owner a worth 1 1", 1, 16);
        dueFault("owner a worth 1 soil", 1, 16);
        dueFault("owner a worth 1 owner b worth 1", 1, 16);
        dueFault("owner abcdefghi worth 1", 1, 6);
        dueFault("owner a worth 1000", 1, 14);
        dueFault("owner a worth 1.5", 1, 15);
        dueFault("owner A worth 1", 1, 6);
        dueFault("owner a\tworth 1", 1, 7);
        dueFault("owner a2 worth 1", 1, 7);
        dueFault("owner a worth -1", 1, 14);
        dueFault("owner a worth 1+*2", 1, 16);
        dueFault("owner a worth ()", 1, 15);
        dueFault("owner a worth (1,2)", 1, 16);
        dueFault("owner a worth 1,2", 1, 15);
        dueFault("owner a worth 1)", 1, 15);
        dueFault("owner a worth (1))+1", 1, 17);
        dueFault("owner a worth least(1,2,3)", 1, 23);
        dueFault("owner a worth most(1)", 1, 20);
        dueFault("owner a worth least((1,2),3)", 1, 22);
        dueFault("owner a worth least(1;2)", 1, 21);
        dueFault("owner a worth (1; owner b worth 1", 1, 16);
        dueFault("owner a worth ann", 1, 14);
        dueFault("owner a worth " + (char) 233, 1, 14);
        for (String name : new String[] {"owner", "worth", "soil", "wet", "far", "water", "least", "most"}) {
            dueFault("owner " + name + " worth 1", 1, 6);
        }
        dueFault("owner a worth 1; owner a worth 100", 3, 23);
        dueFault("owner a worth 999", 4, 14);
        dueFault("owner a 100", 1, 8);
        dueFault("owner a worth 1 100", 1, 16);
        dueFault("owner a worth ((((((1", 5, 19);
        dueFault("owner a worth (((((least(1,2))))))", 5, 24);
        dueFault("owner a worth (((((least 1", 1, 25);
        dueFault("owner a worth " + "1+".repeat(20) + "1", 5, 54);
        dueFault("owner a worth " + "1+".repeat(20) + "100", 4, 54);
        dueFault("owner a worth " + "1*".repeat(20) + ")", 1, 54);
        dueFault("owner a worth " + "1-".repeat(20), 1, 54);
        dueFault("owner a worth " + "(1)+".repeat(10) + "(1)", 5, 54);
        dueFault("owner a worth " + "least(1,2)+".repeat(6) + "least(1,2)", 5, 88);
        String six = "owner a worth 1;owner b worth 1;owner c worth 1;owner d worth 1;owner e worth 1;owner f worth 1;";
        dueFault(six + "owner g worth 1", 5, 102);
        dueFault(six + "owner c worth 1", 3, 102);
        dueFault(six + "owner far worth 1", 1, 102);
        dueFault(six, 1, 96);
    }

    private static void dueValue(String worth, int want) {
        WholeFields x = with("owner a worth " + worth, 1, 1);
        due("value of " + worth, x.value(0, 0), want);
    }

    private static void soundBooks() {
        about("3 sound books");
        dueValue("099", 99);
        dueValue("1+" + "1+".repeat(18) + "1", 20);
        dueValue("(((((7)))))", 7);
        dueValue("((((least(1,2)))))", 1);
        dueValue("(1)+(2)+(3)+(4)+(5)+(6)", 21);
        due("the outer letters", Texts.book(new WholeFields(), "owner azaz worth wet + 09"), 1);
        due("a name of eight letters, and no blanks", Texts.book(new WholeFields(), "owner abcdefgh worth5"), 1);
        String blanks = "  owner  b  worth  least ( 1 , 2 )  ;owner c worth(1)  ";
        due("blanks all about", Texts.book(new WholeFields(), blanks), 2);
        String full = "1+".repeat(19) + "1";
        due("20 factors in each", Texts.book(new WholeFields(), "owner a worth " + full + ";owner b worth " + full), 2);
        due("six owners", Texts.book(new WholeFields(), THREE + ";owner d worth 1;owner e worth 1;owner f worth 1"), 6);
    }

    private static void fault() {
        about("4 fault");
        WholeFields x = with(ONE);
        due("fault()", x.fault(), 0);
        Texts.book(x, "owner a worth 100");
        due("fault()", x.fault(), 4);
        x.book(1);
        due("fault() behind a book refused by 2", x.fault(), 4);
        x.ground(1, 1);
        due("fault() behind another call", x.fault(), 4);
        Texts.book(x, ONE);
        due("fault() behind a sound book", x.fault(), 0);
    }

    private static void where() {
        about("5 where");
        WholeFields x = with(ONE);
        due("where()", x.where(), -1);
        Texts.book(x, "owner a worth 100");
        x.feed(0, 0, 0, 0, 0);
        x.value(0, 0);
        x.count(0);
        x.clear();
        due("where() behind calls that are never refused", x.where(), 14);
        x.ground(1, 1);
        due("where() behind a call that was not refused", x.where(), -1);
        x.book(20);
        due("where() of the bytes 0 that were fed", x.where(), 0);
        x.book(1);
        due("where() behind a book refused by 2", x.where(), -1);
    }

    private static void ground() {
        about("6 ground");
        WholeFields x = new WholeFields();
        refused(x, "ground(9, 9) without a book", x.ground(9, 9), 1);
        x = with(TWO);
        due("ground(8, 8)", x.ground(8, 8), 64);
        due("ground(1, 8)", x.ground(1, 8), 8);
        due("ground(3, 2)", x.ground(3, 2), 6);
        x.cell(1, 9, 8, true);
        x.keep(2, 1);
        x.door(1, 5);
        x.had(0, 9);
        x.set(0, 2);
        x.set(1, 3);
        redraw(x, "aaa bbb");
        x.corner(3);
        x.bars();
        x.split(0, 0, 99);
        refused(x, "ground(0, 1)", x.ground(0, 1), 2);
        refused(x, "ground(1, 0)", x.ground(1, 0), 2);
        refused(x, "ground(1, 9)", x.ground(1, 9), 2);
        refused(x, "ground(-1, -1)", x.ground(-1, -1), 2);
        due("count(1): it stays", x.count(1), 6);
        due("barred(): it stays", x.barred(), 2);
        due("part(): it stays", x.part() != -1, true);
        due("ground(3, 2) anew", x.ground(3, 2), 6);
        due("trouble()", x.trouble(), 0);
        due("value(0, 1): soil at first", x.value(0, 1), 5);
        due("barred()", x.barred(), -1);
        due("part()", x.part(), -1);
        due("votes(0): had at first", x.votes(0), 1);
        int[] counts = {2, 6, 0, 0, 6, 0, 1, 20};
        for (int what = 0; what < counts.length; what++) {
            due("count(" + what + ")", x.count(what), counts[what]);
        }
        x.grow();
        due("whose(0): doors at cell 0", x.whose(0), 0);
        due("count(4)", x.count(4), 0);
        due("sum(1)", x.sum(1), 0);
    }

    private static void cell() {
        about("7 cell");
        WholeFields x = with("owner a worth soil * 10 + wet", 2, 2);
        taken(x, "cell(3, 9, 7, true)", x.cell(3, 9, 7, true));
        due("value(0, 3)", x.value(0, 3), 97);
        due("count(2)", x.count(2), 1);
        refused(x, "cell(4, ..)", x.cell(4, 5, 0, false), 1);
        refused(x, "cell(-1, ..)", x.cell(-1, 99, 0, false), 1);
        refused(x, "cell of soil 10", x.cell(3, 10, 0, false), 2);
        refused(x, "cell of soil -1", x.cell(3, -1, 0, false), 2);
        refused(x, "cell of wet 10", x.cell(3, 0, 10, false), 2);
        refused(x, "cell of wet -1", x.cell(3, 0, -1, false), 2);
        due("value(0, 3) stays", x.value(0, 3), 97);
        due("count(2) stays", x.count(2), 1);
        taken(x, "cell(3, 0, 0, false)", x.cell(3, 0, 0, false));
        taken(x, "cell(2, 9, 9, false)", x.cell(2, 9, 9, false));
        due("value(0, 2)", x.value(0, 2), 99);
        due("count(2)", x.count(2), 0);
        x.draw(0, 0);
        x.cell(0, 1, 1, true);
        due("whose(0): a water cell stays its owner's", x.whose(0), 0);
        due("sum(0)", x.sum(0), 11);
    }

    private static void door() {
        about("8 door");
        WholeFields x = with("owner a worth far; owner b worth far", 3, 3);
        taken(x, "door(1, 5)", x.door(1, 5));
        due("value(1, 0)", x.value(1, 0), 3);
        due("value(1, 5)", x.value(1, 5), 0);
        due("value(0, 5)", x.value(0, 5), 3);
        due("value(0, 8)", x.value(0, 8), 4);
        refused(x, "door(2, 0)", x.door(2, 0), 1);
        refused(x, "door(-1, 0)", x.door(-1, 0), 1);
        refused(x, "door(0, 9)", x.door(0, 9), 1);
        refused(x, "door(0, -1)", x.door(0, -1), 1);
        due("value(0, 8) stays", x.value(0, 8), 4);
        x.cell(4, 5, 0, true);
        due("value(1, 3): straight over water", x.value(1, 3), 2);
        taken(x, "door at a water cell", x.door(0, 4));
        due("value(0, 0)", x.value(0, 0), 2);
    }

    private static void keep() {
        about("9 keep");
        WholeFields x = with(TWO, 2, 2);
        taken(x, "keep(1, 1)", x.keep(1, 1));
        taken(x, "keep(1, 0)", x.keep(1, 0));
        taken(x, "keep(2, 1)", x.keep(2, 1));
        due("count(3)", x.count(3), 2);
        due("whose(1): the drawing stays", x.whose(1), -2);
        taken(x, "keep(1, NONE)", x.keep(1, -1));
        taken(x, "keep(1, NONE) again", x.keep(1, -1));
        due("count(3)", x.count(3), 1);
        refused(x, "keep(4, 0)", x.keep(4, 0), 1);
        refused(x, "keep(-1, 0)", x.keep(-1, 0), 1);
        refused(x, "keep(0, 2)", x.keep(0, 2), 1);
        refused(x, "keep(0, -2)", x.keep(0, -2), 1);
        due("count(3)", x.count(3), 1);
    }

    private static void had() {
        about("10 had");
        WholeFields x = with(TWO, 1, 1);
        taken(x, "had(1, 1000000)", x.had(1, 1000000));
        due("total(1)", x.total(1), 1000000);
        taken(x, "had(0, 3)", x.had(0, 3));
        due("total(1)", x.total(1), 1000003);
        refused(x, "had(2, 0)", x.had(2, 0), 1);
        refused(x, "had(-1, -1)", x.had(-1, -1), 1);
        refused(x, "had(0, -1)", x.had(0, -1), 2);
        refused(x, "had(0, 1000001)", x.had(0, 1000001), 2);
        due("total(1) stays", x.total(1), 1000003);
        taken(x, "had(1, 0)", x.had(1, 0));
        due("total(1)", x.total(1), 3);
    }

    private static void set() {
        about("11 set");
        WholeFields x = with(ONE);
        refused(x, "set(0, 1) without a ground", x.set(0, 1), 1);
        x.ground(2, 2);
        taken(x, "set(0, 2)", x.set(0, 2));
        taken(x, "set(1, 0)", x.set(1, 0));
        due("count(6)", x.count(6), 2);
        due("count(7)", x.count(7), 0);
        refused(x, "set(0, 0)", x.set(0, 0), 2);
        refused(x, "set(0, 3)", x.set(0, 3), 2);
        refused(x, "set(1, -1)", x.set(1, -1), 2);
        refused(x, "set(1, 21)", x.set(1, 21), 2);
        refused(x, "set(2, 99)", x.set(2, 99), 1);
        refused(x, "set(-1, 1)", x.set(-1, 1), 1);
        due("count(6) stays", x.count(6), 2);
        due("count(7) stays", x.count(7), 0);
        taken(x, "set(0, 1)", x.set(0, 1));
        taken(x, "set(1, 20)", x.set(1, 20));
        due("count(6)", x.count(6), 1);
        due("count(7)", x.count(7), 20);
    }

    private static void value() {
        about("12 value");
        dueValue("2 + 3 * 4 - 1", 13);
        dueValue("9 - 3 - 2", 4);
        dueValue("9 - (3 - 2)", 8);
        dueValue("2 * (3 + 4)", 14);
        dueValue("least(3, 5) + most(3, 5) * 10", 53);
        dueValue("least(most(1, 2), most(3, 4))", 2);
        dueValue("99 * 99 * 99", 10000);
        dueValue("0 - 99 * 99 * 99", -10000);
        dueValue("99 * 99 * 99 - 99 * 99 * 99 - 1", -1);
        dueValue("99 * 99 + 99 * 99 - 99 * 99", 199);
        dueValue("99 * 99 - (0 - 99 * 99)", 10000);
        dueValue("(0 - 99 * 99) - 99 * 99 + 1", -9999);
        dueValue("(0 - 99) * 99 * 99", -10000);
        dueValue("soil + wet + far + water", 5);
        WholeFields x = with("owner a worth soil * 10 + wet; owner b worth far * 10 + water", 3, 2);
        x.cell(2, 3, 4, true);
        x.door(1, 4);
        due("value(0, 2)", x.value(0, 2), 34);
        due("value(1, 2): no water beside the water itself", x.value(1, 2), 20);
        due("value(1, 1)", x.value(1, 1), 11);
        due("value(1, 5)", x.value(1, 5), 11);
        due("value(1, 4)", x.value(1, 4), 0);
        due("value(1, 3): the row's end is not beside the next row's begin", x.value(1, 3), 10);
        x.cell(2, 3, 4, false);
        due("value(1, 1) without water", x.value(1, 1), 10);
        due("value(2, 0)", x.value(2, 0), NO_NUMBER);
        due("value(-1, 0)", x.value(-1, 0), NO_NUMBER);
        due("value(0, 6)", x.value(0, 6), NO_NUMBER);
        due("value(0, -1)", x.value(0, -1), NO_NUMBER);
        due("trouble(), which value leaves alone", x.trouble(), 0);
    }

    private static void draw() {
        about("13 draw");
        WholeFields x = with(TWO, 2, 1);
        taken(x, "draw(0, 1)", x.draw(0, 1));
        due("whose(0)", x.whose(0), 1);
        refused(x, "draw(0, 1) again", x.draw(0, 1), 5);
        refused(x, "draw(1, NONE): it is so", x.draw(1, -1), 5);
        taken(x, "draw(0, 0)", x.draw(0, 0));
        due("sum(0)", x.sum(0), 5);
        due("sum(1)", x.sum(1), 0);
        taken(x, "draw(0, NONE)", x.draw(0, -1));
        due("whose(0)", x.whose(0), -2);
        refused(x, "draw(2, 0)", x.draw(2, 0), 1);
        refused(x, "draw(-1, 0)", x.draw(-1, 0), 1);
        refused(x, "draw(0, 2)", x.draw(0, 2), 1);
        refused(x, "draw(0, -2)", x.draw(0, -2), 1);
        x.cell(1, 5, 0, true);
        taken(x, "draw of a water cell", x.draw(1, 0));
        due("whose(1)", x.whose(1), 0);
    }

    private static void whose() {
        about("14 whose");
        WholeFields x = drawn(TWO, "ab .b");
        dueDrawing(x, "draw", "ab .b");
        due("whose(4)", x.whose(4), -1);
        due("whose(-1)", x.whose(-1), -1);
        due("trouble(), which whose leaves alone", x.trouble(), 0);
    }

    private static void sum() {
        about("15 sum");
        WholeFields x = drawn("owner a worth soil; owner b worth 0 - soil", "aab");
        x.cell(1, 9, 0, false);
        due("sum(0)", x.sum(0), 14);
        due("sum(1)", x.sum(1), -5);
        due("sum(2)", x.sum(2), NO_NUMBER);
        due("sum(-1)", x.sum(-1), NO_NUMBER);
        x = with("owner a worth 99 * 99 * 99", 8, 8);
        x.grow();
        due("sum(0) of all", x.sum(0), 640000);
    }

    private static void total() {
        about("16 total");
        WholeFields x = with(ONE);
        refusedNumber(x, "total(0) without a ground", x.total(0), 1);
        x = drawn("owner a worth soil; owner b worth 7; owner c worth far", "aab a.b");
        x.cell(0, 9, 0, false);
        x.had(0, 20);
        x.had(1, 20);
        x.had(2, 3);
        refusedNumber(x, "total(-1)", x.total(-1), 1);
        refusedNumber(x, "total(7)", x.total(7), 1);
        due("total(0)", x.total(0), 9 + 5 + 5 + 7 + 7);
        due("trouble()", x.trouble(), 0);
        due("total(1)", x.total(1), 1 + 6 + 3);
        due("total(2)", x.total(2), 9 + 7 + 7 + 7 + 7 + 7);
        x.keep(0, 2);
        x.keep(1, 0);
        due("total(2) with kept ones", x.total(2), 0 + 5 + 7 + 7 + 7 + 7);
        x.cell(2, 5, 0, true);
        x.cell(1, 5, 0, true);
        due("total(2) without water", x.total(2), 0 + 7 + 7 + 7);
        due("total(3)", x.total(3), 21 - 33);
        // a: 19 against b's 10; b: 14 against a's 21; c: 0 against a's 0 + 1 + 1 and b's 2 + 3.
        due("total(4)", x.total(4), 3);
        due("total(5)", x.total(5), 0);
        x.had(0, 19);
        x.had(2, 0);
        due("total(5)", x.total(5), 2);
        due("total(6)", x.total(6), 4);
        redraw(x, "... ...");
        due("total(6) of none", x.total(6), 0);
        due("total(4) of none", x.total(4), 0);
    }

    private static void bars() {
        about("17 bars");
        WholeFields x = with(TWO);
        refused(x, "bars() without a ground", x.bars(), 1);
        x = drawn(TWO, "aa. b.b");
        x.keep(0, 1);
        due("bars(): no owner", x.bars(), 1);
        due("barred()", x.barred(), 2);
        x.cell(2, 5, 0, true);
        due("bars(): water needs none", x.bars(), 1);
        due("barred()", x.barred(), 4);
        x.cell(4, 5, 0, true);
        due("bars(): kept", x.bars(), 2);
        due("barred()", x.barred(), 0);
        x.keep(0, 0);
        x.keep(4, 0);
        due("bars(): a kept water cell", x.bars(), 2);
        due("barred()", x.barred(), 4);
        x.keep(4, -1);
        due("bars(): torn", x.bars(), 3);
        due("barred()", x.barred(), 1);
        x.draw(4, 1);
        due("bars(): a water cell joins", x.bars(), 0);
        due("trouble()", x.trouble(), 0);
        x.set(0, 2);
        due("bars(): thin", x.bars(), 4);
        due("barred()", x.barred(), 0);
        x = drawn(TWO, "aabb aabb abbb");
        due("bars() of width 1", x.bars(), 0);
        x.set(0, 2);
        due("bars() of width 2", x.bars(), 4);
        due("barred()", x.barred(), 8);
        x.cell(8, 5, 0, true);
        due("bars(): water of a field is thin too", x.bars(), 4);
        x.draw(8, -1);
        due("bars(): cell 9 is in no square", x.bars(), 4);
        due("barred()", x.barred(), 9);
        x.cell(9, 5, 0, true);
        x.draw(9, -1);
        due("bars() of squares alone", x.bars(), 0);
        x = drawn(TWO, "ab ba");
        due("bars(): corners don't hang together", x.bars(), 3);
        due("barred(): the least owner", x.barred(), 0);
        x = drawn(TWO, "aab baa");
        due("bars(): rows don't hang together at their ends", x.bars(), 3);
        due("barred()", x.barred(), 1);
    }

    private static void barred() {
        about("18 barred");
        WholeFields x = with(TWO, 1, 2);
        due("barred() ahead of any", x.barred(), -1);
        x.bars();
        due("barred()", x.barred(), 0);
        x.draw(0, 0);
        due("barred() of the latest bars()", x.barred(), 0);
        x.bars();
        due("barred()", x.barred(), 1);
        x.draw(1, 1);
        x.can();
        x.better(1);
        due("barred(), which other calls leave alone", x.barred(), 1);
        x.bars();
        due("barred() of a lawful one", x.barred(), -2);
        due("trouble()", x.trouble(), 0);
    }

    private static void envies() {
        about("19 envies");
        WholeFields x = drawn("owner a worth soil; owner b worth 1; owner c worth 0 - 1", "abb");
        due("envies(0, 1)", x.envies(0, 1), 1);
        due("trouble()", x.trouble(), 0);
        due("envies(1, 0)", x.envies(1, 0), 0);
        due("envies(2, 0): less than nothing", x.envies(2, 0), 0);
        due("envies(0, 2): no cell", x.envies(0, 2), 0);
        x.draw(2, 2);
        due("envies(0, 1): as much", x.envies(0, 1), 0);
        due("envies(1, 2): as much", x.envies(1, 2), 0);
        x.cell(2, 6, 0, false);
        due("envies(0, 2)", x.envies(0, 2), 1);
        x = drawn("owner a worth 1; owner b worth 0 - 5", "bb");
        due("envies(1, 0): a field without a cell is not envied", x.envies(1, 0), 0);
        refused(x, "envies(0, 0)", x.envies(0, 0), 1);
        refused(x, "envies(0, 2)", x.envies(0, 2), 1);
        refused(x, "envies(2, 0)", x.envies(2, 0), 1);
        refused(x, "envies(-1, 0)", x.envies(-1, 0), 1);
    }

    private static void votes() {
        about("20 votes");
        WholeFields x = drawn(TWO, "aaa");
        due("votes(0)", x.votes(0), 1);
        due("trouble()", x.trouble(), 0);
        x.had(0, 15);
        due("votes(0): as much as it had", x.votes(0), 1);
        x.had(0, 16);
        due("votes(0): less", x.votes(0), 0);
        x.had(0, 0);
        x.set(1, 2);
        due("votes(0): at the limit", x.votes(0), 1);
        x.set(1, 1);
        due("votes(0): farther", x.votes(0), 0);
        x.door(0, 1);
        due("votes(0): from another door", x.votes(0), 1);
        due("votes(1): of nothing", x.votes(1), 1);
        x.had(1, 1);
        due("votes(1)", x.votes(1), 0);
        refused(x, "votes(2)", x.votes(2), 1);
        refused(x, "votes(-1)", x.votes(-1), 1);
    }

    private static void grow() {
        about("21 grow");
        WholeFields x = with(TWO);
        refused(x, "grow() without a ground", x.grow(), 1);
        x.ground(5, 1);
        x.door(1, 4);
        x.draw(0, 1);
        due("grow()", x.grow(), 0);
        due("trouble()", x.trouble(), 0);
        dueDrawing(x, "grow()", "aaabb");
        x.door(1, 0);
        due("grow() of one door for both", x.grow(), 0);
        dueDrawing(x, "grow()", "aaaaa");
        x.keep(0, 1);
        due("grow() of a door kept by another", x.grow(), 0);
        dueDrawing(x, "grow()", "bbbbb");
        x.door(0, 2);
        x.cell(3, 5, 0, true);
        due("grow() round water", x.grow(), 1);
        dueDrawing(x, "grow()", "baa..");
        x.cell(2, 5, 0, true);
        due("grow() from a water door", x.grow(), 1);
        dueDrawing(x, "grow()", "bb...");
        x = with("owner a worth soil; owner b worth 9 - soil", 3, 3);
        x.door(0, 4);
        x.door(1, 8);
        x.cell(7, 9, 0, false);
        x.cell(5, 6, 0, false);
        // a: 7 (9), then 5 is b's greatest at 9 - 6 = 3, but 7 is taken, so b takes 5; the least of like ones follow.
        due("grow() of the greatest", x.grow(), 0);
        dueDrawing(x, "grow()", "aab aab aab");
        x = with(TWO, 2, 2);
        x.door(1, 3);
        x.keep(2, 0);
        due("grow() with kept ones", x.grow(), 0);
        dueDrawing(x, "grow()", "aa ab");
    }

    private static void better() {
        about("22 better");
        WholeFields x = with(TWO);
        refused(x, "better(0) without a ground", x.better(0), 1);
        x = drawn("owner a worth 1; owner b worth 3", "aabb");
        refused(x, "better(0)", x.better(0), 2);
        refused(x, "better(101)", x.better(101), 2);
        refused(x, "better(-1)", x.better(-1), 2);
        due("better(1)", x.better(1), 1);
        due("trouble()", x.trouble(), 0);
        dueDrawing(x, "better(1)", "abbb");
        due("better(100)", x.better(100), 1);
        dueDrawing(x, "better(100)", "bbbb");
        due("better(100) again", x.better(100), 0);
        x.draw(1, 0);
        refused(x, "better(1) of a torn field", x.better(1), 5);
        refused(x, "better(0) of a torn field", x.better(0), 2);
        dueDrawing(x, "refused", "babb");
        x = drawn("owner a worth 1; owner b worth 3", "aabb");
        x.keep(1, 0);
        due("better(9): a kept one stays", x.better(9), 0);
        x = drawn("owner a worth 1; owner b worth 3", "aab.");
        x.cell(3, 5, 0, true);
        x.draw(3, 0);
        refused(x, "better(9): water joins none here", x.better(9), 5);
        x.draw(3, 1);
        due("better(9)", x.better(9), 2);
        dueDrawing(x, "better(9): water cells don't move", "bbbb");
        x = drawn("owner a worth 9; owner b worth 1", "aabb");
        x.cell(2, 5, 0, true);
        due("better(9)", x.better(9), 0);
        x = drawn("owner a worth 1; owner b worth 3", "aabb aabb");
        x.set(0, 2);
        due("better(9): no move keeps width 2", x.better(9), 0);
        x = drawn("owner a worth 5 * far; owner b worth 5 - 5 * far", "ab");
        due("better(9) by an exchange", x.better(9), 1);
        dueDrawing(x, "better(9)", "ba");
        x = drawn("owner a worth soil; owner b worth 2 * soil", "aabb");
        x.had(0, 10);
        due("better(9): none at the cost of shortage", x.better(9), 0);
        x.had(0, 15);
        due("better(9): shortage goes first", x.better(9), 1);
        dueDrawing(x, "better(9)", "aaab");
    }

    private static void betterTies() {
        about("22 better, of like moves");
        WholeFields x = drawn("owner a worth 1; owner b worth 2", "aba aaa");
        x.better(1);
        dueDrawing(x, "better(1): the least cell", "bba aaa");
        x = drawn("owner a worth 1; owner b worth 2; owner c worth 2", "bac");
        x.better(1);
        dueDrawing(x, "better(1): the lesser owner", "bbc");
        x = drawn("owner a worth 5 * far; owner b worth 0", "ab");
        x.better(1);
        dueDrawing(x, "better(1): one cell ahead of an exchange", "aa");
        // An exchange of 0 with 2 or 3 is the best: the cells 2 and 3 are alike to both.
        x = drawn("owner a worth 9 - soil; owner b worth soil", "ab bb");
        x.cell(0, 9, 0, false);
        x.cell(1, 9, 0, false);
        x.cell(2, 0, 0, false);
        x.cell(3, 0, 0, false);
        x.had(0, 9);
        x.had(1, 18);
        due("better(1)", x.better(1), 1);
        dueDrawing(x, "better(1): the lesser other cell", "bb ab");
    }

    private static void can() {
        about("23 can");
        WholeFields x = with(TWO);
        refused(x, "can() without a ground", x.can(), 1);
        x = drawn("owner a worth 1; owner b worth 3", "aabb");
        due("can()", x.can(), 1);
        due("trouble()", x.trouble(), 0);
        dueDrawing(x, "can()", "aabb");
        x.better(100);
        due("can() of the bettered", x.can(), 0);
        x.draw(0, -1);
        refused(x, "can() of an unlawful one", x.can(), 5);
        x = drawn(TWO, "ab");
        due("can(): no worse and no better", x.can(), 0);
    }

    private static void best() {
        about("24 best");
        WholeFields x = with(TWO);
        refusedNumber(x, "best() without a ground", x.best(false), 1);
        x.ground(5, 2);
        refusedNumber(x, "best() of ten cells", x.best(false), 5);
        x.cell(9, 5, 0, true);
        x.draw(9, 1);
        due("best() of nine", x.best(false), 45);
        due("trouble()", x.trouble(), 0);
        dueDrawing(x, "best(): the lesser owner first, water no one's", "aaaaa aaaa.");
        x.keep(9, 0);
        refusedNumber(x, "best() of a kept water cell", x.best(false), 6);
        dueDrawing(x, "refused", "aaaaa aaaa.");
        WholeFields four = with(THREE + "; owner d worth 1", 1, 1);
        refusedNumber(four, "best() of four owners", four.best(true), 5);
        x = with("owner a worth far; owner b worth 2; owner c worth 4 - far", 3, 3);
        // c: 4 3 2 / 3 2 . / 2 . . ; a: 4 at 8, 3 at 5 and 7; b is as good as both at far 2, and lesser than c.
        due("best() of three", x.best(false), 4 + 3 + 3 + 2 + 2 + 2 + 3 + 3 + 4);
        dueDrawing(x, "best(): the lesser of like ones", "cca caa aaa");
        x.had(1, 2);
        due("best(): shortage first", x.best(false), 26);
        dueDrawing(x, "best()", "cca caa baa");
        x.set(0, 2);
        due("best() of width 2: b has no room beside others", x.best(false), 18);
        dueDrawing(x, "best()", "bbb bbb bbb");
        x = with(TWO, 2, 1);
        x.keep(0, 1);
        due("best() of a kept cell", x.best(false), 10);
        dueDrawing(x, "best()", "ba");
        x = with(TWO, 2, 1);
        x.cell(0, 5, 0, true);
        x.cell(1, 5, 0, true);
        due("best() of water alone", x.best(false), 0);
        x = with("owner a worth 0 - 1", 1, 1);
        due("best() below nothing", x.best(false), -1);
    }

    private static void calm() {
        about("24 best, calm");
        WholeFields x = with(TWO, 2, 2);
        due("best(false)", x.best(false), 20);
        dueDrawing(x, "best(false)", "aa aa");
        due("total(4)", x.total(4), 1);
        due("best(true)", x.best(true), 20);
        dueDrawing(x, "best(true)", "aa bb");
        due("total(4)", x.total(4), 0);
        x.had(1, 15);
        due("best(true): calm ahead of shortage", x.best(true), 20);
        dueDrawing(x, "best(true)", "aa bb");
        x.keep(0, 0);
        x.keep(1, 0);
        x.keep(2, 0);
        due("best(true): one pair at least", x.best(true), 20);
        dueDrawing(x, "best(true): shortage among like ones", "aa ab");
    }

    private static void stakes() {
        about("25 stakes");
        WholeFields x = drawn(TWO, "ab ba");
        refused(x, "stakes(0) of a torn field", x.stakes(0), 5);
        refused(x, "stakes(2)", x.stakes(2), 1);
        refused(x, "stakes(-1)", x.stakes(-1), 1);
        x = drawn(TWO, "aa");
        refused(x, "stakes(1) of no cell", x.stakes(1), 5);
        due("stakes(0)", x.stakes(0), 4);
        due("trouble()", x.trouble(), 0);
    }

    private static void stake() {
        about("26 stake");
        WholeFields x = drawn(TWO, "ba aa");
        dueStakes(x, 0, 1, 2, 8, 6, 3, 4);
        dueStakes(x, 1, 0, 1, 4, 3);
        x = drawn(TWO, "aaa aba aaa");
        dueStakes(x, 0, 0, 3, 15, 12);
        dueStakes(x, 1, 5, 6, 10, 9);
        x = drawn(TWO, "aaa aba aab");
        // The border goes round the inner b as well, for it stays with the cell that it went along.
        dueStakes(x, 0, 0, 3, 11, 10, 6, 5, 9, 10, 14, 12);
        due("stake of a torn field throws", hasNoStake(x, 1, 0), true);
        due("stake(2, 0) throws", hasNoStake(x, 2, 0), true);
        due("stake(-1, 0) throws", hasNoStake(x, -1, 0), true);
        x.ground(1, 1);
        due("stake of no cell throws", hasNoStake(x, 0, 0), true);
        due("trouble(), which stake leaves alone", x.trouble(), 0);
        x = drawn(TWO, "aaaa abaa aaba aaaa");
        // Two holes that touch at a corner alone are inside: the outer border is a square.
        dueStakes(x, 0, 0, 4, 24, 20);
        x = drawn(TWO, "baba aaaa baba");
        dueStakes(x, 0, 1, 2, 7, 8, 3, 4, 19, 18, 13, 12, 17, 16, 11, 10, 5, 6);
    }

    private static void within() {
        about("27 within");
        WholeFields x = drawn(TWO, "aaa aba aaa");
        due("within(0) with a hole", x.within(0), 9);
        due("within(1)", x.within(1), 1);
        due("trouble()", x.trouble(), 0);
        x = drawn(TWO, "aaa aba aab");
        due("within(0): not what lies open at a corner", x.within(0), 7);
        refused(x, "within(1) of a torn field", x.within(1), 5);
        refused(x, "within(2)", x.within(2), 1);
        refused(x, "within(-1)", x.within(-1), 1);
        x = drawn(TWO, "aaaa abaa aaba aaaa");
        due("within(0) with two holes", x.within(0), 16);
        x = drawn(TWO, "aaa a.a aaa");
        due("within(0) round no one's cell", x.within(0), 9);
        x.ground(1, 1);
        refused(x, "within(0) of no cell", x.within(0), 5);
    }

    private static void split() {
        about("28 split");
        WholeFields x = drawn(TWO, "aaaa aaaa aaaa");
        refused(x, "split(2, 5, 4)", x.split(2, 5, 4), 1);
        refused(x, "split(-1, 0, 9)", x.split(-1, 0, 9), 1);
        refused(x, "split(1, 5, 4) of no cell", x.split(1, 5, 4), 2);
        refused(x, "split(1, 4, 5) of no cell", x.split(1, 4, 5), 5);
        due("split(0, 30, 30) of twelve", x.split(0, 30, 30), 3);
        due("trouble()", x.trouble(), 0);
        due("part()", x.part(), 0x333);
        due("split(0, 0, 60): a corner cell", x.split(0, 0, 60), 2);
        due("part()", x.part(), 1);
        refused(x, "split(0, 60, 60): no part is empty", x.split(0, 60, 60), 6);
        refused(x, "split(0, 0, 0)", x.split(0, 0, 0), 6);
        refused(x, "split(0, 31, 34)", x.split(0, 31, 34), 6);
        x = drawn(ONE, "aaaaaaa aaaaaa.");
        refused(x, "split of thirteen", x.split(0, 0, 99), 5);
        x = drawn(ONE, "a.");
        refused(x, "split of one cell", x.split(0, 0, 99), 5);
        x = drawn(ONE, "a.a");
        refused(x, "split of a torn field", x.split(0, 0, 99), 5);
        x = drawn(ONE, "aaa");
        x.cell(1, 0, 0, false);
        due("split(0, 5, 5): the fewest cells", x.split(0, 5, 5), 1);
        due("part()", x.part(), 1);
        x.cell(0, 7, 0, false);
        due("split(0, 5, 5)", x.split(0, 5, 5), 1);
        due("part()", x.part(), 4);
        refused(x, "split(0, 12, 12): both parts hang together", x.split(0, 12, 12), 6);
        x = drawn("owner a worth 0 - soil", "aa");
        due("split of values below nothing", x.split(0, -5, -5), 1);
        due("part()", x.part(), 1);
    }

    private static void part() {
        about("29 part");
        WholeFields x = drawn(TWO, "b.aa bba.");
        due("part() without one", x.part(), -1);
        due("split(0, 10, 10)", x.split(0, 10, 10), 1);
        // The field's cells are 2, 3 and 6: bits 0 and 1 are 2 and 3.
        due("part()", x.part(), 3);
        refused(x, "split(0, 99, 99)", x.split(0, 99, 99), 6);
        refused(x, "split(0, 1, 0)", x.split(0, 1, 0), 2);
        refused(x, "split(5, 0, 1)", x.split(5, 0, 1), 1);
        due("part() stays", x.part(), 3);
        due("split(1, 5, 5)", x.split(1, 5, 5), 1);
        due("part()", x.part(), 1);
        due("trouble()", x.trouble(), 0);
    }

    private static void corner() {
        about("30 corner");
        WholeFields x = with(ONE);
        refused(x, "corner(0) without a ground", x.corner(0), 1);
        x.ground(3, 2);
        due("corner(0)", x.corner(0), 1);
        due("trouble()", x.trouble(), 0);
        due("corner(11)", x.corner(11), 2);
        refused(x, "corner(12)", x.corner(12), 1);
        refused(x, "corner(-1)", x.corner(-1), 1);
        refused(x, "corner(0) again", x.corner(0), 5);
        due("corner(5)", x.corner(5), 3);
        due("corner(6)", x.corner(6), 4);
        refused(x, "corner(7)", x.corner(7), 3);
        refused(x, "corner(5) again with no room", x.corner(5), 3);
        refused(x, "corner(12) with no room", x.corner(12), 1);
        due("count(5)", x.count(5), 4);
    }

    private static void clear() {
        about("31 clear");
        WholeFields x = with(ONE, 1, 1);
        x.corner(0);
        x.corner(3);
        refused(x, "corner(4)", x.corner(4), 1);
        due("clear()", x.clear(), 2);
        due("trouble(), which clear leaves alone", x.trouble(), 1);
        due("count(5)", x.count(5), 0);
        due("clear() again", x.clear(), 0);
        due("corner(3) anew", x.corner(3), 1);
        x.ground(1, 1);
        due("clear() behind ground()", x.clear(), 0);
    }

    private static void ditches() {
        about("32 ditches");
        WholeFields x = with(TWO);
        refused(x, "ditches() without a ground", x.ditches(), 1);
        x = drawn(TWO, "aaa aba aaa");
        refused(x, "ditches() without corners", x.ditches(), 5);
        x.corner(0);
        due("ditches() of one corner", x.ditches(), 0);
        due("trouble()", x.trouble(), 0);
        x.corner(3);
        refused(x, "ditches(): the ground's rim is no border", x.ditches(), 6);
        x.clear();
        x.corner(5);
        x.corner(10);
        due("ditches() of two", x.ditches(), 2);
        x.corner(6);
        due("ditches() of three on one way", x.ditches(), 2);
        x.corner(9);
        due("ditches() of four round a square", x.ditches(), 3);
        x.draw(4, -1);
        due("ditches(): between one and none", x.ditches(), 3);
        x.draw(4, 0);
        refused(x, "ditches() without borders", x.ditches(), 6);
        // Borders everywhere: the four ends of a cross are joined by a fork in the middle.
        x = drawn(TWO, "abab baba abab baba");
        x.corner(2);
        x.corner(10);
        x.corner(14);
        x.corner(22);
        due("ditches() of a cross", x.ditches(), 8);
        x.clear();
        x.corner(6);
        x.corner(8);
        x.corner(16);
        x.corner(18);
        due("ditches() of a square's corners", x.ditches(), 6);
        x.clear();
        x.corner(1);
        x.corner(3);
        x.corner(22);
        due("ditches() of three with a fork: the rim is no border", x.ditches(), 7);
    }

    private static void count() {
        about("33 count");
        WholeFields x = with(THREE);
        due("count(0)", x.count(0), 3);
        for (int what = 1; what <= 8; what++) {
            due("count(" + what + ") without a ground", x.count(what), 0);
        }
        x.ground(4, 2);
        x.cell(0, 1, 1, true);
        x.cell(7, 1, 1, true);
        x.keep(0, 2);
        x.keep(1, 2);
        x.keep(2, 2);
        x.draw(0, 1);
        x.draw(5, 1);
        x.corner(14);
        x.set(0, 2);
        x.set(1, 11);
        x.feed(0, 0, 0, 0, 0);
        refused(x, "corner(15)", x.corner(15), 1);
        int[] counts = {3, 8, 2, 3, 6, 1, 2, 11, 20};
        for (int what = 0; what < counts.length; what++) {
            due("count(" + what + ")", x.count(what), counts[what]);
        }
        due("count(9)", x.count(9), -1);
        due("count(-1)", x.count(-1), -1);
        due("trouble(), which count leaves alone", x.trouble(), 1);
    }

    private static void trouble() {
        about("34 trouble");
        WholeFields x = new WholeFields();
        due("trouble()", x.trouble(), 0);
        x.bars();
        due("trouble() behind bars()", x.trouble(), 1);
        Texts.feed(x, ONE);
        x.fault();
        x.where();
        x.value(0, 0);
        x.whose(0);
        x.sum(0);
        x.barred();
        x.part();
        x.clear();
        x.count(0);
        due("a stake throws", hasNoStake(x, 0, 0), true);
        due("trouble() behind calls of which no number is told", x.trouble(), 1);
        x.book(18);
        due("trouble() behind a sound book", x.trouble(), 0);
        x.ground(0, 0);
        due("trouble() behind ground(0, 0)", x.trouble(), 2);
        x.ground(2, 1);
        due("trouble() behind a ground", x.trouble(), 0);
        x.grow();
        x.stakes(1);
        due("trouble() behind stakes(1)", x.trouble(), 1);
        x.split(0, 99, 99);
        due("trouble() behind a split without a way", x.trouble(), 6);
        x.split(0, 5, 5);
        due("trouble() behind a split", x.trouble(), 0);
    }
}
