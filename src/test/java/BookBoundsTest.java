/** The edges that Terms I and promises 1 to 5 name: the tape, its tokens, the book's form and its faults. */
final class BookBoundsTest extends Checks {
    private static final String AHEAD = "owner a worth ";
    private static final String[] KEPT_WORDS = {"owner", "worth", "soil", "wet", "far", "water", "least", "most"};
    private static final String FULL = "1+".repeat(19) + "1";

    public static void main(String[] args) {
        playSentences(BookBoundsTest.class);
    }

    /** The first n bytes of a text are a sound book; then its first owner's value of a lone cell. */
    private static void dueValue(String text, int n, int want) {
        WholeFields x = new WholeFields();
        Texts.feed(x, text);
        due("book(" + n + ") of '" + text + "'", x.book(n) > 0, true);
        due("fault() of '" + text + "'", x.fault(), 0);
        due("where() of '" + text + "'", x.where(), -1);
        x.ground(1, 1);
        due("value(0, 0) of '" + text + "' up to " + n, x.value(0, 0), want);
    }

    private static void dueWorth(String worth, int want) {
        dueValue(AHEAD + worth, AHEAD.length() + worth.length(), want);
    }

    private static void dueSound(String text, int owners) {
        WholeFields x = new WholeFields();
        due("book of '" + text + "'", Texts.book(x, text), owners);
        due("trouble() of '" + text + "'", x.trouble(), 0);
        due("fault() of '" + text + "'", x.fault(), 0);
    }

    private static void dueFault(String text, int n, int fault, int place) {
        WholeFields x = new WholeFields();
        Texts.feed(x, text);
        refused(x, "book(" + n + ") of '" + text + "'", x.book(n), 4);
        due("fault() of '" + text + "' up to " + n, x.fault(), fault);
        due("where() of '" + text + "' up to " + n, x.where(), place);
    }

    private static void dueFault(String text, int fault, int place) {
        dueFault(text, text.length(), fault, place);
    }

    /** A fault of a worth, its place told from the worth's begin. */
    private static void dueWorthFault(String worth, int fault, int place) {
        dueFault(AHEAD + worth, fault, AHEAD.length() + place);
    }

    // ---- Terms I: the tape and its tokens

    @Sentence(of = "I", says = "THE TEXT of a BOOK (THE TAPE has 500 bytes;")
    private static void i500BytesAllRead() {
        String text = AHEAD + " ".repeat(484) + "42";
        due("length", text.length(), 500);
        dueValue(text, 500, 42);
        dueValue(text, 499, 4);
        dueFault(text, 498, 1, 498);
        String broken = AHEAD + "4" + " ".repeat(484) + ";";
        dueFault(broken, 500, 1, 500);
        dueFault(AHEAD + "4" + " ".repeat(484) + "!", 500, 1, 499);
        dueValue(broken, 499, 4);
    }

    @Sentence(of = "I", says = "blanks, 32, part TOKENS and mean nothing else;")
    private static void iBlanksPartAndMeanNothing() {
        dueSound("owner a worth 1;owner b worth 1", 2);
        dueSound("   owner   a   worth   1   ;   owner   b   worth   1   ", 2);
        dueWorth(" least  (  7 ,  8  )  *  ( 2  - 1 ) ", 7);
        dueWorth("least(7,8)*(2-1)", 7);
        dueWorthFault("1 2", 1, 2);
        dueWorthFault("so il", 1, 0);
        dueFault("own er a worth 1", 1, 0);
        dueFault("ownera worth 1", 1, 0);
    }

    @Sentence(of = "I", says = "blanks, 32, part TOKENS")
    private static void iOnly32IsBlank() {
        for (int b = 0; b < 256; b++) {
            if (b == 32) {
                dueWorth("1" + (char) b, 1);
            } else if (b < '(' || b > ';' || b == '.' || b == '/' || b == ':') {
                dueWorthFault("1" + (char) b, 1, 1);
                dueFault((char) b + "owner a worth 1", 1, 0);
            }
        }
    }

    @Sentence(of = "I", says = "TOKENS: WORDS of 1 to 8 small letters that stand together,")
    private static void iWordsOf1To8Letters() {
        dueSound("owner b worth 1", 1);
        dueSound("owner abcdefgh worth 1", 1);
        dueFault("owner abcdefghi worth 1", 1, 6);
        dueFault("owner abcdefghijklmnopqrstuvwxyz worth 1", 1, 6);
        dueFault("owner a worth soilsoils", 1, 14);
        dueFault("ownerownerowner a worth 1", 1, 0);
    }

    @Sentence(of = "I", says = "small letters")
    private static void iLettersFromAToZ() {
        dueSound("owner a worth 1; owner z worth 1; owner azza worth 1", 3);
        for (char edge : new char[] {'a' - 1, 'z' + 1, 'A', 'Z', (char) ('a' + 128), (char) 228}) {
            dueFault("owner " + edge + " worth 1", 1, 6);
            dueFault("owner a" + edge + " worth 1", 1, 7);
        }
    }

    @Sentence(of = "I", says = "WHOLES of 1 to 3 digits that do,")
    private static void iWholesOf1To3Digits() {
        dueWorth("7", 7);
        dueWorth("07", 7);
        dueWorth("007", 7);
        dueWorthFault("0007", 1, 0);
        dueWorthFault("1000", 1, 0);
        dueWorthFault("12345678901234567890", 1, 0);
        dueWorth("0", 0);
        dueWorth("000", 0);
        dueWorth("90", 90);
        dueWorthFault("/", 1, 0);
        dueWorthFault(":", 1, 0);
        dueWorthFault("1/", 1, 1);
        dueWorthFault("1:", 1, 1);
    }

    @Sentence(of = "I", says = "WORDS of 1 to 8 small letters that stand together, WHOLES of 1 to 3 digits that do")
    private static void iWordsAndWholesNeedNoBlank() {
        dueSound("owner a worth5", 1);
        dueFault("owner a1 worth 5", 1, 7);
        dueWorthFault("5soil", 1, 1);
        dueWorthFault("soil5", 1, 4);
        dueWorthFault("1*1soil", 1, 3);
    }

    @Sentence(of = "I", says = "single ones of ; , + - * ( ) ):")
    private static void iSignsAreSingle() {
        dueWorth("least(9,8)+3-2*1", 9);
        dueSound("owner a worth(1);owner b worth(2)", 2);
        dueWorthFault("1++1", 1, 2);
        dueWorthFault("1**1", 1, 2);
        dueWorthFault("1--1", 1, 2);
        dueWorthFault("least(1,,2)", 1, 8);
        dueFault("owner a worth 1;;owner b worth 1", 1, 16);
        for (char no : "!\"#$%&'./:<=>?@[\\]^_`{|}~".toCharArray()) {
            dueWorthFault("1" + no + "1", 1, 1);
        }
    }

    // ---- Terms I: the form

    @Sentence(of = "I", says = "BOOK: OWNER {; OWNER}.")
    private static void iBookHasAnOwnerAtLeast() {
        dueFault("", 1, 0);
        dueFault("     ", 1, 5);
        dueFault(";", 1, 0);
        dueSound("owner a worth 1", 1);
        dueSound("owner a worth 1;owner b worth 1", 2);
        dueFault("owner a worth 1;", 1, 16);
        dueFault("owner a worth 1 owner b worth 1", 1, 16);
        dueFault("owner a worth 1,owner b worth 1", 1, 15);
    }

    @Sentence(of = "I", says = "OWNER: owner NAME worth WORTH.")
    private static void iOwnerHasAllItsParts() {
        dueFault("owner", 1, 5);
        dueFault("owner a", 1, 7);
        dueFault("owner a worth", 1, 13);
        dueFault("owners a worth 1", 1, 0);
        dueFault("a worth 1", 1, 0);
        dueFault("worth 1", 1, 0);
        dueFault("owner 1 worth 1", 1, 6);
        dueFault("owner a b worth 1", 1, 8);
        dueFault("owner a soil", 1, 8);
        dueFault("owner a worth worth 1", 1, 14);
        dueFault("owner a worth;", 1, 13);
        dueFault("owner a worth a", 1, 14);
    }

    @Sentence(of = "I", says = "WORTH: TERM {+ TERM}, also - in +'s place.")
    private static void iWorthIsOfTerms() {
        dueWorth("7", 7);
        dueWorth("7-8+9-1", 7);
        dueWorthFault("+1", 1, 0);
        dueWorthFault("-1", 1, 0);
        dueWorthFault("1+", 1, 2);
        dueWorthFault("1-", 1, 2);
        dueWorthFault("1+-1", 1, 2);
        dueWorthFault("1-+1", 1, 2);
        dueWorthFault("(1+)", 1, 3);
    }

    @Sentence(of = "I", says = "TERM: FACTOR {* FACTOR}.")
    private static void iTermIsOfFactors() {
        dueWorth("2*3*4", 24);
        dueWorth("2+3*4", 14);
        dueWorth("2*3+4*5", 26);
        dueWorthFault("*1", 1, 0);
        dueWorthFault("1*", 1, 2);
        dueWorthFault("2*-1", 1, 2);
        dueWorthFault("2(3)", 1, 1);
        dueWorthFault("(2)3", 1, 3);
    }

    @Sentence(of = "I", says = "FACTOR: WHOLE (0 .. 99), soil, wet, far, water,")
    private static void iWholeFrom0To99() {
        dueWorth("0", 0);
        dueWorth("99", 99);
        dueWorth("099", 99);
        dueWorthFault("100", 4, 0);
        dueWorth("soil", 5);
        dueWorth("wet", 0);
        dueWorth("far", 0);
        dueWorth("water", 0);
        dueWorthFault("soils", 1, 0);
        dueWorthFault("we", 1, 0);
    }

    @Sentence(of = "I", says = "least ( WORTH , WORTH ), most ( WORTH , WORTH ), or ( WORTH ).")
    private static void iLeastAndMostAreOfTwo() {
        dueWorth("least(3,4)", 3);
        dueWorth("most(3,4)", 4);
        dueWorth("least(4,4)", 4);
        dueWorth("most(1+1,least(9,2*4))", 8);
        dueWorthFault("least", 1, 5);
        dueWorthFault("least 3,4", 1, 6);
        dueWorthFault("least()", 1, 6);
        dueWorthFault("least(3)", 1, 7);
        dueWorthFault("least(3,)", 1, 8);
        dueWorthFault("least(,3)", 1, 6);
        dueWorthFault("most(3,4,5)", 1, 8);
        dueWorthFault("most(3,4", 1, 8);
        dueWorthFault("most(3;4)", 1, 6);
        dueWorthFault("most((3,4))", 1, 7);
        dueWorthFault("least((3),(4)", 1, 13);
    }

    @Sentence(of = "I", says = "or ( WORTH ).")
    private static void iRoundsCloseWhatTheyOpen() {
        dueWorth("(3)", 3);
        dueWorth("(3-(2-1))", 2);
        dueWorthFault("()", 1, 1);
        dueWorthFault("(3", 1, 2);
        dueWorthFault("3)", 1, 1);
        dueWorthFault("(3,4)", 1, 2);
        dueWorthFault("(3))", 1, 3);
        dueWorthFault("(3;", 1, 2);
        dueFault("owner a worth (3; owner b worth 4)", 1, 16);
    }

    @Sentence(of = "I", says = "NAMES are WORDS but owner, worth, soil, wet, far, water, least, most.")
    private static void iNamesAreNoKeptWords() {
        for (String word : KEPT_WORDS) {
            dueFault("owner " + word + " worth 1", 1, 6);
            dueFault("owner a worth 1;owner " + word + " worth 1", 1, 22);
            dueSound("owner " + word + "s worth 1", 1);
            dueSound("owner s" + word + " worth 1", 1);
            dueSound("owner " + word.substring(1) + " worth 1", 1);
            dueSound("owner " + word.substring(0, word.length() - 1) + " worth 1", 1);
        }
    }

    @Sentence(of = "I", says = "Up to 6 OWNERS,")
    private static void iSixOwnersAndSeven() {
        dueSound(SIX, 6);
        dueFault(SIX + "; owner g worth 1", 5, SIX.length() + 8);
        dueFault(SIX + "; owner", 1, SIX.length() + 7);
        dueFault(SIX + ";", 1, SIX.length() + 1);
        WholeFields x = with(SIX, 1, 1);
        due("value(5, 0)", x.value(5, 0), 1);
        due("value(6, 0)", x.value(6, 0), NO_NUMBER);
    }

    @Sentence(of = "I", says = "20 FACTORS in a WORTH,")
    private static void iTwentyFactorsAndOneMore() {
        dueWorth(FULL, 20);
        dueWorthFault(FULL + "+1", 5, 40);
        dueWorth("1*".repeat(19) + "7", 7);
        dueWorthFault("1*".repeat(20) + "7", 5, 40);
        dueWorth("soil-".repeat(19) + "wet", -85);
        dueWorthFault("soil-".repeat(20) + "wet", 5, 100);
    }

    @Sentence(of = "I", says = "20 FACTORS in a WORTH,")
    private static void iTwentyFactorsInEachWorth() {
        dueSound("owner a worth " + FULL + ";owner b worth " + FULL + ";owner c worth " + FULL, 3);
        dueFault("owner a worth 1;owner b worth " + FULL + "+1", 5, 70);
        dueFault("owner a worth " + FULL + ";owner b worth " + FULL + "+1", 5, 108);
    }

    @Sentence(of = "I", says = "20 FACTORS in a WORTH,")
    private static void iFactorsWithinFactorsCountToo() {
        dueWorth("(1)+".repeat(9) + "(1)", 10);
        dueWorthFault("(1)+".repeat(10) + "1", 5, 40);
        dueWorth("most(1,2)+".repeat(6) + "1+1", 14);
        dueWorthFault("most(1,2)+".repeat(6) + "1+1+1", 5, 64);
        dueWorth("(" + "1+".repeat(18) + "1)", 19);
        dueWorthFault("(" + FULL + ")", 5, 39);
    }

    @Sentence(of = "I", says = "5 ( within one another.")
    private static void iFiveRoundsAndSix() {
        dueWorth("(((((7)))))", 7);
        dueWorthFault("((((((7))))))", 5, 5);
        dueWorth("least(8,most(7,least(9,most(8,least(9,10)))))", 8);
        dueWorthFault("most(8,most(8,most(8,most(8,most(8,most(8,7))))))", 5, 39);
        dueWorth("((((most(7,6)))))", 7);
        dueWorthFault("(((((most(7,6))))))", 5, 9);
    }

    @Sentence(of = "I", says = "5 ( within one another.")
    private static void iRoundsThatAreClosedDoNotCount() {
        dueWorth("(1)+(1)+(1)+(1)+(1)+(1)+(1)", 7);
        dueWorth("(((((1)))))+(((((2)))))", 3);
        dueWorth("((((1)+((1)))))+((((1+(1)))))", 4);
        dueWorthFault("(((((1)+((1))))))", 5, 9);
        dueSound("owner a worth (((((1)))));owner b worth (((((1)))))", 2);
    }

    // ---- Terms I: the faults

    @Sentence(of = "I", says = "FAULTS, the first that is met from the left,")
    private static void iFirstFaultFromTheLeft() {
        dueWorthFault("100+!", 4, 0);
        dueWorthFault("!+100", 1, 0);
        dueWorthFault("1+100)", 4, 2);
        dueWorthFault("1)+100", 1, 1);
        dueFault("owner a worth 100;owner a worth 1", 4, 14);
        dueFault("owner a worth 1;owner a worth 100", 3, 22);
        dueWorthFault("((((((100", 5, 5);
        dueWorthFault("(((((100(", 4, 5);
        dueWorthFault(FULL + "+1+100", 5, 40);
        dueWorthFault("100+" + FULL, 4, 0);
        dueWorthFault("+ abcdefghi", 1, 0);
    }

    @Sentence(of = "I", says = "of one place the least number:")
    private static void iOfOnePlaceTheLeastNumber() {
        dueWorthFault("1 100", 1, 2);
        dueFault("owner 100 worth 1", 1, 6);
        dueFault("100", 1, 0);
        dueWorthFault(FULL + "+100", 4, 40);
        dueWorthFault(FULL + "+1000", 1, 40);
        dueWorthFault(FULL + "+)", 1, 40);
        dueWorthFault(FULL + "+a", 1, 40);
        dueFault(SIX + ";owner d worth 1", 3, SIX.length() + 7);
        dueFault(SIX + ";owner most worth 1", 1, SIX.length() + 7);
        dueFault(SIX + ";owner 7 worth 1", 1, SIX.length() + 7);
        dueWorthFault("(((((1(", 1, 6);
        dueWorthFault("(((((1 least(", 1, 7);
        dueWorthFault("1*".repeat(15) + "(((((((", 5, 35);
    }

    @Sentence(of = "I",
            says = "1 FORM: the first byte that begins no TOKEN, or TOKEN with which no BOOK goes on (the end: its "
                    + "place).")
    private static void iFormAtTheEnd() {
        for (int n = 0; n < 15; n++) {
            // A word that is cut is another word, met ahead of the end.
            int[] places = {0, 0, 0, 0, 0, 5, 6, 7, 8, 8, 8, 8, 8, 13, 14};
            dueFault("owner a worth 1", n, 1, places[n]);
        }
        dueFault("owner a worth 1 +   ", 18, 1, 18);
        dueFault("owner a worth 1 +   ", 20, 1, 20);
        dueValue("owner a worth 1 +   ", 16, 1);
    }

    @Sentence(of = "I", says = "3 a NAME told again; at it.")
    private static void iNameToldAgain() {
        dueFault("owner a worth 1;owner b worth 1;owner a worth 1", 3, 38);
        dueFault("owner a worth 1;owner b worth 1;owner b worth 1", 3, 38);
        dueFault("owner abcdefgh worth 1;owner abcdefgh worth 1", 3, 29);
        dueSound("owner abcdefgh worth 1;owner zbcdefgh worth 1;owner abcdefgz worth 1", 3);
        dueSound("owner a worth 1;owner aa worth 1;owner ab worth 1;owner ba worth 1", 4);
        // Names of an earlier book, sound or not, are not told yet in a new one.
        WholeFields x = with("owner a worth 1;owner b worth 1");
        due("book of the same names", Texts.book(x, "owner b worth 1;owner a worth 1"), 2);
        Texts.book(x, "owner a worth 1;owner b worth !");
        due("book behind a fault", Texts.book(x, "owner b worth 1;owner a worth 1"), 2);
    }

    @Sentence(of = "I", says = "4 a WHOLE above 99; at it.")
    private static void iWholeAbove99() {
        dueWorth("1+99", 100);
        dueWorthFault("1+100", 4, 2);
        dueWorthFault("1+999", 4, 2);
        dueWorth("1+ 099", 100);
        dueWorthFault("least(99,101)", 4, 9);
    }

    @Sentence(of = "I", says = "5 MANY: a seventh OWNER, at its NAME;")
    private static void iSeventhOwnerAtItsName() {
        dueFault(SIX + ";owner   g worth !", 5, SIX.length() + 9);
        dueFault(SIX + ";owner g", 5, SIX.length() + 7);
        dueFault(SIX + ";owner !", 1, SIX.length() + 7);
    }

    @Sentence(of = "I", says = "a twenty-first FACTOR, at its first TOKEN;")
    private static void iTwentyFirstFactorAtItsFirstToken() {
        for (String more : new String[] {"1", "99", "soil", "wet", "far", "water", "(1)", "least(1,2)", "most", "("}) {
            dueWorthFault(FULL + " + " + more, 5, 42);
        }
        // The twenty-first stands within the twentieth, behind its own first token.
        dueWorthFault("1+".repeat(19) + "( 1)", 5, 40);
        dueWorthFault("1+".repeat(19) + "least( 1,1)", 5, 45);
        dueWorthFault("1+".repeat(18) + "least(1, 1)", 5, 45);
        dueWorth("1+".repeat(17) + "least(1, 1)", 18);
    }

    @Sentence(of = "I", says = "a sixth ( open, at it.")
    private static void iSixthRoundAtIt() {
        dueWorthFault("((((( (1", 5, 6);
        dueWorthFault("(((((least (1", 5, 11);
        dueWorthFault("(((((least 1", 1, 11);
        dueWorthFault("(((((1)))))+(((((1+(", 5, 19);
        dueWorthFault("least(1,least(1,least(1,least(1,least(1,(", 5, 40);
    }

    // ---- promise 1

    @Sentence(of = "1", says = "No BOOK, no GROUND.")
    private static void p01NoBook() {
        WholeFields x = new WholeFields();
        due("count(0)", x.count(0), 0);
        due("count(8)", x.count(8), 0);
        due("fault()", x.fault(), 0);
        due("where()", x.where(), -1);
        due("trouble()", x.trouble(), 0);
        refused(x, "ground(1, 1)", x.ground(1, 1), 1);
        refused(x, "book(1)", x.book(1), 2);
        refused(x, "book(0)", x.book(0), 4);
    }

    @Sentence(of = "1", says = "no GROUND.")
    private static void p01NoGround() {
        WholeFields x = new WholeFields();
        for (int what = 0; what <= 8; what++) {
            due("count(" + what + ")", x.count(what), 0);
        }
        due("barred()", x.barred(), -1);
        due("part()", x.part(), -1);
        due("clear()", x.clear(), 0);
        due("whose(0)", x.whose(0), -1);
        due("value(0, 0)", x.value(0, 0), NO_NUMBER);
        due("sum(0)", x.sum(0), NO_NUMBER);
        due("stake(0, 0) throws", hasNoStake(x, 0, 0), true);
        due("trouble()", x.trouble(), 0);
    }

    // ---- promise 2

    @Sentence(of = "2", says = "Twenty bytes come behind THE TAPE, of each number the highest first:")
    private static void p02HighestByteFirst() {
        WholeFields x = new WholeFields();
        String text = "owner abcdefgh worth least(soil, 9)*most(wet,2)";
        int[][] rows = {{0x6F776E65, 0x72206162, 0x63646566, 0x67682077, 0x6F727468},
            {0x206C6561, 0x73742873, 0x6F696C2C, 0x2039292A, 0x6D6F7374},
            {0x28776574, 0x2C322920, 0x20202020, 0x20202020, 0x20202020}};
        for (int i = 0; i < rows.length; i++) {
            due("feed", x.feed(rows[i][0], rows[i][1], rows[i][2], rows[i][3], rows[i][4]), 20 * i + 20);
        }
        due("book", x.book(text.length()), 1);
        x.ground(1, 1);
        due("value(0, 0)", x.value(0, 0), 10);
        due("the same by Texts", Texts.feeds(text)[1][4], rows[1][4]);
    }

    @Sentence(of = "2", says = "Twenty bytes come behind THE TAPE, of each number the highest first:")
    private static void p02BytesOfEachPlace() {
        // A byte that begins no token stands at each of the twenty places by turns, the numbers below nothing too.
        for (int at = 0; at < 20; at++) {
            for (int b : new int[] {0, 1, 127, 128, 255}) {
                int[] r = {0x20202020, 0x20202020, 0x20202020, 0x20202020, 0x20202020};
                r[at / 4] = r[at / 4] & ~(255 << 24 - at % 4 * 8) | b << 24 - at % 4 * 8;
                WholeFields x = new WholeFields();
                x.feed(r[0], r[1], r[2], r[3], r[4]);
                refused(x, "book(20)", x.book(20), 4);
                due("where() of the byte " + b, x.where(), at);
            }
        }
    }

    @Sentence(of = "2", says = "how many it has;")
    private static void p02HowManyItHas() {
        WholeFields x = new WholeFields();
        for (int i = 1; i <= 25; i++) {
            due("feed " + i, x.feed(0, 0, 0, 0, 0), 20 * i);
            due("count(8)", x.count(8), 20 * i);
        }
        x.book(0);
        due("feed to the tape that a book emptied", x.feed(0, 0, 0, 0, 0), 20);
        x.book(21);
        due("feed to the tape that a refused book left", x.feed(0, 0, 0, 0, 0), 40);
    }

    @Sentence(of = "2", says = "NONE, and none comes, if there would be more than 500.")
    private static void p02NoneBeyond500() {
        String text = AHEAD + " ".repeat(484) + "42";
        WholeFields x = new WholeFields();
        Texts.feed(x, text);
        due("count(8)", x.count(8), 500);
        for (int i = 0; i < 3; i++) {
            due("feed of more", x.feed(0x21212121, 0x21212121, 0x21212121, 0x21212121, 0x21212121), -1);
            due("count(8)", x.count(8), 500);
        }
        due("trouble(), which feed leaves", x.trouble(), 0);
        refused(x, "book(501)", x.book(501), 2);
        due("feed of more", x.feed(0, 0, 0, 0, 0), -1);
        due("trouble(), which feed leaves", x.trouble(), 2);
        due("book(500)", x.book(500), 1);
        x.ground(1, 1);
        due("value(0, 0)", x.value(0, 0), 42);
    }

    // ---- promise 3

    @Sentence(of = "3", says = "The first n bytes of THE TAPE")
    private static void p03FirstNBytes() {
        String text = "owner a worth 12;owner b worth 3";
        dueValue(text, 15, 1);
        dueValue(text, 16, 12);
        dueFault(text, 17, 1, 17);
        dueValue(text, 32, 12);
        dueValue(text, 40, 12);
        dueFault(text, 0, 1, 0);
        // What the last tape held behind the first n bytes of the new one does not come into it.
        WholeFields x = with("owner a worth 77;owner b worth 1");
        Texts.feed(x, "owner a worth 5 ");
        due("book(15)", x.book(15), 1);
    }

    @Sentence(of = "3", says = "(it is empty then)")
    private static void p03TapeIsEmptyThen() {
        WholeFields x = new WholeFields();
        Texts.feed(x, "owner a worth 1;owner b worth 1");
        due("book(15), a part of it", x.book(15), 1);
        due("count(8)", x.count(8), 0);
        refused(x, "book(1)", x.book(1), 2);
        Texts.feed(x, "owner a worth 1;owner b worth 1");
        refused(x, "book(14), a part of it", x.book(14), 4);
        due("count(8)", x.count(8), 0);
        Texts.feed(x, "owner a worth 1;owner b worth 1");
        refused(x, "book(0)", x.book(0), 4);
        due("count(8)", x.count(8), 0);
    }

    @Sentence(of = "3", says = "are the BOOK from now on (no GROUND; all told of OWNERS as at first):")
    private static void p03NothingIsLeftBehindABook() {
        for (State state : State.ALL) {
            WholeFields x = state.make();
            WholeFields y = new WholeFields();
            x.book(x.count(8));
            due("book of the sample", Texts.book(x, SAMPLE), 2);
            due("book of the sample", Texts.book(y, SAMPLE), 2);
            due("count(1): no ground, behind " + state, x.count(1), 0);
            refused(x, "bars()", x.bars(), 1);
            y.bars();
            if (state != State.NEW) {
                due("ground(3, 2)", x.ground(3, 2), 6);
                due("ground(3, 2)", y.ground(3, 2), 6);
            }
            dueAlike("behind a book in the state " + state, x, y);
        }
    }

    @Sentence(of = "3", says = "are the BOOK from now on")
    private static void p03EachBookIsReadAnew() {
        // What a book that broke off had open, or an earlier one told, is not in the next one.
        String[] broken = {"1+(2*", "1-", "1-(1-", "3*(2*", "(((((1", "least(1", "most(1,", FULL, FULL + "-", "1"};
        WholeFields x = new WholeFields();
        for (String ahead : broken) {
            for (int i = 1; i <= 3; i++) {
                Texts.book(x, AHEAD + ahead);
                due("book behind '" + ahead + "'", Texts.book(x, AHEAD + i + "+(9-" + i + ");owner b worth " + i), 2);
                x.ground(1, 1);
                due("value(0, 0) behind '" + ahead + "'", x.value(0, 0), 9);
                due("value(1, 0) behind '" + ahead + "'", x.value(1, 0), i);
                Texts.book(x, "owner a worth 7;owner b worth 8;owner c worth " + ahead);
            }
        }
        due("a comma behind least that broke off", Texts.book(x, AHEAD + "least("), -1);
        due("a comma behind least that broke off", Texts.book(x, AHEAD + "(1,2)"), -1);
        due("where()", x.where(), 16);
    }

    @Sentence(of = "3", says = "how many OWNERS.")
    private static void p03HowManyOwners() {
        StringBuilder text = new StringBuilder();
        for (int i = 1; i <= 6; i++) {
            text.append(i > 1 ? ";" : "").append("owner ").append((char) ('a' + i)).append(" worth 1");
            dueSound(text.toString(), i);
            due("count(0)", with(text.toString()).count(0), i);
        }
        // Fewer behind more: the former ones are gone.
        WholeFields x = with(SIX);
        due("book of one", Texts.book(x, ONE), 1);
        x.ground(1, 1);
        refused(x, "door(1, 0)", x.door(1, 0), 1);
    }

    @Sentence(of = "3", says = "NONE: 2 (THE TAPE stays);")
    private static void p03RefusedByTwo() {
        int held = (WAITING.length() + 19) / 20 * 20;
        for (int n : new int[] {-1, held + 1, held + 20, 501, NO_NUMBER, HIGHEST}) {
            refusesNone(State.ALL, "book(" + n + ")", x -> x.book(n), 2);
        }
        WholeFields x = new WholeFields();
        refused(x, "book(1) of an empty tape", x.book(1), 2);
        refused(x, "book(-1) of an empty tape", x.book(-1), 2);
        Texts.feed(x, WAITING);
        due("book of all that is held", x.book(held), 2);
    }

    @Sentence(of = "3", says = "4 (the BOOK stays).")
    private static void p03RefusedByFour() {
        String[] faulty = {"", "owner b worth 1;owner a worth 100", "owner a worth 1;owner a worth 1",
            SIX + ";owner g"};
        for (State state : State.ALL) {
            for (String text : faulty) {
                WholeFields x = state.make();
                WholeFields y = state.make();
                // Both had a faulty book latest, and an empty tape.
                x.book(0);
                y.book(0);
                refused(x, "book of '" + text + "'", Texts.book(x, text), 4);
                due("count(8)", x.count(8), 0);
                Texts.feed(y, text);
                refused(y, "book(0)", y.book(0), 4);
                due("fault() of '" + text + "'", x.fault() > 0, true);
                x.book(0);
                dueAlike("behind a faulty book in the state " + state, x, y);
            }
        }
    }

    // ---- promise 4

    @Sentence(of = "4", says = "The FAULT of the latest book() not refused by 2;")
    private static void p04FaultStaysBehindTwo() {
        String[] texts = {AHEAD + "!", AHEAD + "1;owner a worth 1", AHEAD + "100", AHEAD + "((((((1"};
        int[] faults = {1, 3, 4, 5};
        WholeFields x = with(ONE, 1, 1);
        for (int i = 0; i < texts.length; i++) {
            Texts.book(x, texts[i]);
            due("fault() of '" + texts[i] + "'", x.fault(), faults[i]);
            refused(x, "book(1)", x.book(1), 2);
            refused(x, "book(-1)", x.book(-1), 2);
            due("fault() behind books refused by 2", x.fault(), faults[i]);
            x.ground(1, 1);
            x.bars();
            x.feed(0, 0, 0, 0, 0);
            due("fault() behind other calls", x.fault(), faults[i]);
            x.book(0);
            due("fault() of nothing", x.fault(), 1);
        }
    }

    @Sentence(of = "4", says = "0 without one.")
    private static void p04NoFault() {
        WholeFields x = new WholeFields();
        due("fault() ahead of any book", x.fault(), 0);
        x.book(1);
        due("fault() behind a book refused by 2 alone", x.fault(), 0);
        Texts.book(x, "owner a worth 100");
        Texts.book(x, ONE);
        due("fault() of a sound book", x.fault(), 0);
        x.book(1);
        due("fault() of a sound book, behind one refused by 2", x.fault(), 0);
    }

    // ---- promise 5

    @Sentence(of = "5", says = "Its place, if the latest call that may be refused was by 4;")
    private static void p05PlaceOfTheFault() {
        WholeFields x = with(ONE, 1, 1);
        refused(x, "book(0)", x.book(0), 4);
        due("where() of the least place", x.where(), 0);
        Texts.feed(x, AHEAD + "1" + " ".repeat(485));
        refused(x, "book of + alone at the last byte", bookWithLast(x, '+'), 4);
        due("where() of the greatest place", x.where(), 500);
        Texts.book(x, "owner a worth 100");
        x.fault();
        x.feed(0, 0, 0, 0, 0);
        x.value(0, 0);
        x.whose(0);
        x.sum(0);
        x.barred();
        x.part();
        x.clear();
        x.count(0);
        x.trouble();
        hasNoStake(x, 0, 0);
        due("where() behind calls of which no number is told", x.where(), 14);
        due("where() again", x.where(), 14);
    }

    /** The tape is full; it is emptied, and filled with the same but for its last byte. */
    private static int bookWithLast(WholeFields x, char last) {
        x.book(500);
        return Texts.book(x, AHEAD + "1" + " ".repeat(484) + last);
    }

    @Sentence(of = "5", says = "NONE else.")
    private static void p05NoneElse() {
        WholeFields x = new WholeFields();
        due("where() ahead of any call", x.where(), -1);
        Texts.book(x, "owner a worth 100");
        x.book(1);
        due("where() behind a book refused by 2", x.where(), -1);
        Texts.book(x, "owner a worth 100");
        x.ground(1, 1);
        due("where() behind a call refused by 1", x.where(), -1);
        Texts.book(x, "owner a worth 100");
        Texts.book(x, ONE);
        due("where() behind a sound book", x.where(), -1);
        Texts.book(x, "owner a worth 100");
        x.ground(1, 1);
        due("where() behind a call that was not refused", x.where(), -1);
        due("fault() is told still", x.fault(), 4);
    }
}
