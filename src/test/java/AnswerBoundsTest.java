/** The edges that Terms VI, promises 33 and 34, and the constants name: counts, troubles, and the last call. */
final class AnswerBoundsTest extends Checks {
    public static void main(String[] args) {
        playSentences(AnswerBoundsTest.class);
    }

    private static void dueTrouble(WholeFields x, String behind, int trouble) {
        due("trouble() behind " + behind, x.trouble(), trouble);
        due("trouble() again behind " + behind, x.trouble(), trouble);
    }

    @Sentence(of = "What it is", says = "An object is used for at most 512 calls after it has been made;")
    private static void all512CallsAnswer() {
        WholeFields x = new WholeFields();
        int calls = 0;
        for (int[] r : Texts.feeds(TWO)) {
            x.feed(r[0], r[1], r[2], r[3], r[4]);
            calls++;
        }
        due("book", x.book(TWO.length()), 2);
        due("ground(8, 8)", x.ground(8, 8), 64);
        calls += 2;
        for (; calls < 510; calls++) {
            due("draw, call " + (calls + 1), x.draw(calls % 64, calls / 64 % 2), true);
        }
        due("count(4), call 511", x.count(4), 0);
        due("total(0), call 512", x.total(0), 320);
    }

    @Sentence(of = "constants", says = "`NONE = -1`: There is none; refused.")
    private static void noneIsMinusOne() {
        due("NONE", WholeFields.NONE, -1);
        WholeFields x = new WholeFields();
        due("ground(1, 1), refused", x.ground(1, 1), WholeFields.NONE);
        due("barred(), there is none", x.barred(), WholeFields.NONE);
    }

    // ---- Terms VI

    @Sentence(of = "VI",
            says = "TROUBLE of the latest call that may be refused (those of which a number is told here):")
    private static void viCallsThatMayBeRefused() {
        // Each call that is not refused ends the trouble of the one ahead.
        for (int i = 0; i < 19; i++) {
            WholeFields x = State.LAWFUL.make();
            x.ground(0, 0);
            dueTrouble(x, "ground(0, 0)", 2);
            String call = sound(x, i);
            dueTrouble(x, call, 0);
            due("where() behind " + call, x.where(), -1);
        }
    }

    private static String sound(WholeFields x, int i) {
        switch (i) {
            case 0: x.book(40); return "book(40)";
            case 1: x.ground(1, 1); return "ground(1, 1)";
            case 2: x.cell(0, 9, 1, false); return "cell(0, 9, 1, false)";
            case 3: x.door(0, 0); return "door(0, 0)";
            case 4: x.keep(0, 0); return "keep(0, 0)";
            case 5: x.had(0, 0); return "had(0, 0)";
            case 6: x.set(0, 1); return "set(0, 1)";
            case 7: x.draw(0, 1); return "draw(0, 1)";
            case 8: x.total(0); return "total(0)";
            case 9: x.bars(); return "bars()";
            case 10: x.envies(0, 1); return "envies(0, 1)";
            case 11: x.votes(0); return "votes(0)";
            case 12: x.grow(); return "grow()";
            case 13: x.better(1); return "better(1)";
            case 14: x.can(); return "can()";
            case 15: x.best(false); return "best(false)";
            default: return soundBorder(x, i);
        }
    }

    private static String soundBorder(WholeFields x, int i) {
        switch (i) {
            case 16: x.stakes(0); return "stakes(0)";
            case 17: x.within(0); return "within(0)";
            default: x.split(1, 7, 7); return "split(1, 7, 7)";
        }
    }

    @Sentence(of = "VI",
            says = "TROUBLE of the latest call that may be refused (those of which a number is told here):")
    private static void viCallsForDitchesToo() {
        WholeFields x = State.LAWFUL.make();
        x.ground(0, 0);
        x.corner(0);
        dueTrouble(x, "corner(0)", 0);
        x.clear();
        x.ground(0, 0);
        x.corner(1);
        x.ground(0, 0);
        x.ditches();
        dueTrouble(x, "ditches()", 0);
    }

    @Sentence(of = "VI",
            says = "TROUBLE of the latest call that may be refused (those of which a number is told here):")
    private static void viOtherCallsLeaveIt() {
        WholeFields[] all = {State.NEW.make(), State.UNLAWFUL.make(), State.FAULTED.make(), State.LAWFUL.make()};
        int[] troubles = {0, 0, 4, 2};
        all[3].ground(0, 0);
        for (int i = 0; i < all.length; i++) {
            for (int call = 0; call < 10; call++) {
                quietCall(all[i], call);
                dueTrouble(all[i], "quiet call " + call, troubles[i]);
            }
        }
    }

    private static void quietCall(WholeFields x, int call) {
        switch (call) {
            case 0: x.feed(0, 0, 0, 0, 0); break;
            case 1: x.fault(); break;
            case 2: x.where(); break;
            case 3: x.value(9, 9); break;
            case 4: x.whose(99); break;
            case 5: x.sum(9); break;
            case 6: x.barred(); break;
            case 7: x.part(); break;
            case 8: x.count(9); break;
            default:
                hasNoStake(x, 0, 99);
                x.clear();
                break;
        }
    }

    @Sentence(of = "VI",
            says = "0 it wasn't; 1 there is none such; 2 a number; 3 no room; 4 a FAULT; 5 not so; 6 there is no way.")
    private static void viEachNumber() {
        WholeFields x = new WholeFields();
        dueTrouble(x, "no call", 0);
        x.ditches();
        dueTrouble(x, "ditches() without a ground", 1);
        x.book(1);
        dueTrouble(x, "book(1) of an empty tape", 2);
        x.book(0);
        dueTrouble(x, "book(0)", 4);
        Texts.book(x, TWO);
        dueTrouble(x, "a sound book", 0);
        x.ground(2, 1);
        x.can();
        dueTrouble(x, "can() of an unlawful drawing", 5);
        for (int c = 0; c < 4; c++) {
            x.corner(c);
        }
        x.corner(4);
        dueTrouble(x, "corner(4), the fifth", 3);
        x.ditches();
        dueTrouble(x, "ditches() without borders", 6);
        x.grow();
        dueTrouble(x, "grow()", 0);
    }

    // ---- promise 33

    @Sentence(of = "33", says = "0 OWNERS, 1 CELLS,")
    private static void p33OwnersAndCells() {
        WholeFields x = with(SIX);
        due("count(0) without a ground", x.count(0), 6);
        due("count(1) without a ground", x.count(1), 0);
        x.ground(8, 8);
        due("count(0)", x.count(0), 6);
        due("count(1)", x.count(1), 64);
        Texts.book(x, ONE);
        due("count(0)", x.count(0), 1);
        due("count(1)", x.count(1), 0);
        x.ground(1, 1);
        due("count(1)", x.count(1), 1);
        x.book(0);
        due("count(0) behind a faulty book", x.count(0), 1);
    }

    @Sentence(of = "33", says = "2 WATER ones, 3 KEPT ones, 4 CELLS that are no one's,")
    private static void p33WaterKeptAndNoOnes() {
        WholeFields x = with(SIX, 8, 8);
        due("count(2)", x.count(2), 0);
        due("count(3)", x.count(3), 0);
        due("count(4)", x.count(4), 64);
        for (int c = 0; c < 64; c++) {
            x.cell(c, 5, 0, true);
            x.keep(63 - c, c % 6);
            due("count(2)", x.count(2), c + 1);
            due("count(3)", x.count(3), c + 1);
        }
        due("count(4): water ones, too", x.count(4), 64);
        for (int c = 0; c < 64; c++) {
            x.draw(c, c % 6);
            due("count(4)", x.count(4), 63 - c);
        }
        x.keep(0, -1);
        x.cell(63, 5, 0, false);
        x.draw(9, -1);
        due("count(2)", x.count(2), 63);
        due("count(3)", x.count(3), 63);
        due("count(4)", x.count(4), 1);
    }

    @Sentence(of = "33", says = "5 corners for DITCHES, 6 WIDTH, 7 LIMIT, 8 bytes of THE TAPE.")
    private static void p33CornersWidthLimitTape() {
        WholeFields x = with(ONE, 1, 1);
        for (int c = 0; c < 4; c++) {
            due("count(5)", x.count(5), c);
            x.corner(c);
        }
        x.corner(4);
        due("count(5)", x.count(5), 4);
        due("count(6) at first", x.count(6), 1);
        due("count(7) at first", x.count(7), 20);
        x.set(0, 2);
        x.set(1, 0);
        due("count(6)", x.count(6), 2);
        due("count(7)", x.count(7), 0);
        for (int i = 0; i <= 25; i++) {
            due("count(8)", x.count(8), 20 * i);
            x.feed(0, 0, 0, 0, 0);
        }
        due("count(8) of the full tape", x.count(8), 500);
    }

    @Sentence(of = "33", says = "NONE for others;")
    private static void p33NoneForOthers() {
        for (int what : new int[] {-1, 9, 10, 64, NO_NUMBER, HIGHEST}) {
            quiet(State.ALL, "count(" + what + ")", x -> x.count(what), -1);
        }
    }

    @Sentence(of = "33", says = "0 for what there isn't.")
    private static void p33WhatThereIsnt() {
        for (int what = 0; what <= 8; what++) {
            int w = what;
            quiet(new Maker[] {WholeFields::new}, "count(" + w + ") of a new object", x -> x.count(w), 0);
        }
        for (int what = 1; what <= 7; what++) {
            int w = what;
            quiet(State.WITHOUT_GROUND, "count(" + w + ") without a ground", x -> x.count(w), 0);
            quiet(new Maker[] {AnswerBoundsTest::bookBehindGround}, "count(" + w + ") of a ground that is gone",
                    x -> x.count(w), 0);
        }
    }

    private static WholeFields bookBehindGround() {
        WholeFields x = State.LAWFUL.make();
        due("book(40)", x.book(40), 2);
        return x;
    }

    // ---- promise 34

    @Sentence(of = "34", says = "TROUBLE.")
    private static void p34AsksOnly() {
        quiet(State.ALL, "trouble()", x -> 0 * x.trouble(), 0);
        WholeFields x = State.FAULTED.make();
        dueTrouble(x, "a faulty book", 4);
        due("where(), which trouble() leaves", x.where(), 14);
    }
}
