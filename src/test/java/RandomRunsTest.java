import java.util.NoSuchElementException;
import java.util.Random;

/** The same calls, drawn by lot from fixed seeds, to WholeFields and to PlainFields: all answers must be alike. */
final class RandomRunsTest {
    private static final Tally TALLY = new Tally("RandomRunsTest");
    private static final String[] WORDS =
            {"owner", "worth", "soil", "wet", "far", "water", "least", "most", "ann", "b", "abcdefgh", "abcdefghi"};
    private static final String[] SIGNS = {";", ",", "+", "-", "*", "(", ")"};

    private final Random lot;
    private final WholeFields x = new WholeFields();
    private final PlainFields y = new PlainFields();
    private final String run;
    private int owners;
    private int wide = 3;
    private int high = 3;
    private int calls;

    private RandomRunsTest(long seed) {
        // Seeds that are neighbours begin alike, so they are spread.
        lot = new Random(seed * 0x9E3779B97F4A7C15L);
        run = "run " + seed + ", ";
    }

    public static void main(String[] args) {
        int runs = args.length > 0 ? Integer.parseInt(args[0]) : 1500;
        int first = args.length > 1 ? Integer.parseInt(args[1]) : 1;
        for (int seed = first; seed < first + runs && TALLY.wrongs() < 20; seed++) {
            new RandomRunsTest(seed).play();
        }
        TALLY.end();
    }

    private void due(String call, long got, long want) {
        calls++;
        TALLY.due(run + "call " + calls + ": " + call, got, want);
    }

    private void due(String call, boolean got, boolean want) {
        due(call, got ? 1 : 0, want ? 1 : 0);
    }

    private void play() {
        if (lot.nextInt(4) == 0) {
            for (int i = 0; i < 25; i++) {
                tellBook(lot.nextInt(3) == 0 ? jumble() : spoilt(lawfulBook()));
            }
        }
        if (lot.nextInt(20) != 0) {
            tellBook(lawfulBook());
            for (int i = 0; i < 20 && owners == 0; i++) {
                tellBook(lawfulBook());
            }
        }
        if (lot.nextInt(3) == 0 && owners > 0) {
            playBorders();
            playBetterings();
            return;
        }
        tellGround();
        int most = wide * high <= 12 ? 150 : 60;
        for (int i = 0; i < most && calls < 500; i++) {
            act(lot.nextInt(40));
            due("trouble()", x.trouble(), y.trouble());
        }
        dueState();
    }

    /** Cells drawn thickly by lot: fields with holes and touching corners, and many borders to dig along. */
    private void playBorders() {
        wide = 2 + lot.nextInt(7);
        high = 2 + lot.nextInt(7);
        due("ground(" + wide + ", " + high + ")", x.ground(wide, high), y.ground(wide, high));
        int thick = 3 + lot.nextInt(6);
        for (int c = 0; c < wide * high; c++) {
            int o = lot.nextInt(10) < thick ? 0 : lot.nextInt(owners + 1) - 1;
            due("draw(" + c + ", " + o + ")", x.draw(c, o), y.draw(c, o));
        }
        for (int i = 0; i < 60; i++) {
            for (int o = 0; o < owners; o++) {
                due("stakes(" + o + ")", x.stakes(o), y.stakes(o));
                due("within(" + o + ")", x.within(o), y.within(o));
                if (x.trouble() == 0) {
                    dueStakes(o);
                }
            }
            int corner = lot.nextInt((wide + 1) * (high + 1));
            due("corner(" + corner + ")", x.corner(corner), y.corner(corner));
            due("ditches()", x.ditches(), y.ditches());
            due("total(6)", x.total(6), y.total(6));
            if (lot.nextInt(4) == 0) {
                due("clear()", x.clear(), y.clear());
            }
            int c = someCell();
            int o = lot.nextInt(3) < 2 ? 0 : someOwner();
            due("draw(" + c + ", " + o + ")", x.draw(c, o), y.draw(c, o));
        }
    }

    /** Grounds that grow and are bettered to the end. */
    private void playBetterings() {
        for (int round = 0; round < 3; round++) {
            wide = 1 + lot.nextInt(6);
            high = 1 + lot.nextInt(6);
            due("ground(" + wide + ", " + high + ")", x.ground(wide, high), y.ground(wide, high));
            boolean dry = lot.nextBoolean();
            for (int c = 0; c < wide * high; c++) {
                tellCell(c, !dry && lot.nextInt(12) == 0);
            }
            for (int o = 0; o < owners; o++) {
                tellDoor(o);
                int had = lot.nextInt(200);
                due("had(" + o + ", " + had + ")", x.had(o, had), y.had(o, had));
            }
            due("grow()", x.grow(), y.grow());
            dueDrawing();
            if (lot.nextInt(3) == 0) {
                due("set(0, 2)", x.set(0, 2), y.set(0, 2));
            }
            due("can()", x.can(), y.can());
            due("better(100)", x.better(100), y.better(100));
            dueDrawing();
            due("can()", x.can(), y.can());
            for (int what = 0; what <= 6; what++) {
                due("total(" + what + ")", x.total(what), y.total(what));
            }
        }
    }

    private void tellBook(String text) {
        for (int[] r : Texts.feeds(text)) {
            due("feed", x.feed(r[0], r[1], r[2], r[3], r[4]), y.feed(r[0], r[1], r[2], r[3], r[4]));
        }
        int n = lot.nextInt(30) == 0 ? lot.nextInt(520) - 10 : text.length();
        due("book(" + n + ") of '" + text + "'", x.book(n), y.book(n));
        due("trouble()", x.trouble(), y.trouble());
        due("fault()", x.fault(), y.fault());
        due("where()", x.where(), y.where());
        due("barred()", x.barred(), y.barred());
        due("part()", x.part(), y.part());
        owners = x.count(0);
    }

    private String lawfulBook() {
        StringBuilder text = new StringBuilder();
        int many = 1 + lot.nextInt(lot.nextInt(3) == 0 ? 7 : 3);
        for (int i = 0; i < many; i++) {
            text.append(i > 0 ? ";" : "").append(blank()).append("owner ");
            text.append((char) ('a' + (lot.nextInt(60) == 0 ? 0 : i))).append(" worth ");
            text.append(worth(lot.nextInt(4)));
        }
        return text.append(blank()).toString();
    }

    private String blank() {
        return lot.nextInt(3) == 0 ? " " : "";
    }

    private String worth(int depth) {
        StringBuilder text = new StringBuilder(term(depth));
        while (lot.nextInt(5) < 2) {
            text.append(blank()).append(lot.nextBoolean() ? "+" : "-").append(blank()).append(term(depth));
        }
        return text.toString();
    }

    private String term(int depth) {
        StringBuilder text = new StringBuilder(factor(depth));
        while (lot.nextInt(5) == 0) {
            text.append(blank()).append("*").append(blank()).append(factor(depth));
        }
        return text.toString();
    }

    private String factor(int depth) {
        int k = lot.nextInt(depth > 0 ? 9 : 6);
        switch (k) {
            case 0: return String.valueOf(lot.nextInt(lot.nextInt(60) == 0 ? 1010 : lot.nextInt(3) == 0 ? 100 : 9));
            case 1: case 2: return "soil";
            case 3: return "wet";
            case 4: return "far";
            case 5: return "water";
            case 6: return "(" + worth(depth - 1) + blank() + ")";
            default:
                return (k == 7 ? "least" : "most") + blank() + "(" + worth(depth - 1) + "," + worth(depth - 1) + ")";
        }
    }

    private String spoilt(String text) {
        StringBuilder s = new StringBuilder(text);
        int at = lot.nextInt(s.length());
        switch (lot.nextInt(6)) {
            case 0: s.deleteCharAt(at); break;
            case 1: s.insert(lot.nextBoolean() ? at : s.length(), SIGNS[lot.nextInt(SIGNS.length)]); break;
            case 2: s.insert(at, " " + WORDS[lot.nextInt(WORDS.length)] + " "); break;
            case 3: s.setLength(at); break;
            case 4: s.setCharAt(at, (char) lot.nextInt(256)); break;
            default: s.insert(at, lot.nextInt(2000)); break;
        }
        return s.length() > 480 ? s.substring(0, 480) : s.toString();
    }

    /** Tokens without order, behind a sound beginning: deep and many ones too. */
    private String jumble() {
        StringBuilder s = new StringBuilder("owner a worth ");
        int many = lot.nextInt(60);
        int kind = lot.nextInt(3);
        for (int i = 0; i < many && s.length() < 400; i++) {
            if (kind == 0) {
                s.append(lot.nextInt(3) == 0 ? "least(" : "(");
            } else if (kind == 1) {
                s.append(lot.nextInt(4) == 0 ? "(1)" : lot.nextInt(4) == 0 ? "least(soil,2)" : "7").append("+");
            } else {
                s.append(lot.nextBoolean() ? WORDS[lot.nextInt(WORDS.length)] : SIGNS[lot.nextInt(SIGNS.length)]);
                s.append(blank());
            }
        }
        return s.append(lot.nextBoolean() ? "1" : "").toString();
    }

    private void tellGround() {
        boolean small = lot.nextInt(10) < 8;
        wide = small ? 1 + lot.nextInt(4) : lot.nextInt(10);
        high = small ? 1 + lot.nextInt(4) : lot.nextInt(10);
        due("ground(" + wide + ", " + high + ")", x.ground(wide, high), y.ground(wide, high));
        due("trouble()", x.trouble(), y.trouble());
        int waters = lot.nextInt(4);
        for (int c = 0; c < wide * high && calls < 200; c++) {
            if (lot.nextInt(2) == 0) {
                tellCell(c, lot.nextInt(8) < waters);
            }
        }
        for (int o = 0; o < owners; o++) {
            tellDoor(o);
        }
        if (lot.nextBoolean()) {
            due("grow()", x.grow(), y.grow());
        }
    }

    private int someCell() {
        return lot.nextInt(25) == 0 ? lot.nextInt(70) - 3 : lot.nextInt(Math.max(1, wide * high));
    }

    private int someOwner() {
        return lot.nextInt(25) == 0 ? lot.nextInt(9) - 2 : lot.nextInt(Math.max(1, owners));
    }

    private void tellCell(int c, boolean water) {
        int soil = lot.nextInt(40) == 0 ? lot.nextInt(20) - 5 : lot.nextInt(10);
        int wet = lot.nextInt(40) == 0 ? lot.nextInt(20) - 5 : lot.nextInt(10);
        due("cell(" + c + ", " + soil + ", " + wet + ", " + water + ")", x.cell(c, soil, wet, water),
                y.cell(c, soil, wet, water));
    }

    private void tellDoor(int o) {
        int c = someCell();
        due("door(" + o + ", " + c + ")", x.door(o, c), y.door(o, c));
    }

    private void act(int k) {
        int c = someCell();
        int o = someOwner();
        switch (k) {
            case 0: tellCell(c, lot.nextInt(4) == 0); break;
            case 1: tellDoor(o); break;
            case 2: case 3: {
                int owner = lot.nextInt(2) == 0 ? -1 : o;
                due("keep(" + c + ", " + owner + ")", x.keep(c, owner), y.keep(c, owner));
                break;
            }
            case 4: case 5: {
                int v = lot.nextInt(20) == 0 ? lot.nextInt() : lot.nextInt(60);
                due("had(" + o + ", " + v + ")", x.had(o, v), y.had(o, v));
                break;
            }
            case 6: {
                int what = lot.nextInt(4) - 1;
                int v = lot.nextInt(25) - 2;
                v = what == 0 && lot.nextInt(3) > 0 ? 1 + lot.nextInt(2) : v;
                due("set(" + what + ", " + v + ")", x.set(what, v), y.set(what, v));
                break;
            }
            case 7: due("value(" + o + ", " + c + ")", x.value(o, c), y.value(o, c)); break;
            case 8: case 9: case 10: case 11: case 12: case 13: {
                int owner = lot.nextInt(12) == 0 ? -1 : o;
                due("draw(" + c + ", " + owner + ")", x.draw(c, owner), y.draw(c, owner));
                break;
            }
            case 14: due("sum(" + o + ")", x.sum(o), y.sum(o)); break;
            case 15: case 16: {
                int what = lot.nextInt(9) - 1;
                due("total(" + what + ")", x.total(what), y.total(what));
                break;
            }
            default: actMore(k, c, o); break;
        }
    }

    private void actMore(int k, int c, int o) {
        switch (k) {
            case 17: case 18:
                due("bars()", x.bars(), y.bars());
                due("barred()", x.barred(), y.barred());
                break;
            case 19: {
                int other = someOwner();
                due("envies(" + o + ", " + other + ")", x.envies(o, other), y.envies(o, other));
                break;
            }
            case 20: due("votes(" + o + ")", x.votes(o), y.votes(o)); break;
            case 21: case 22: due("grow()", x.grow(), y.grow()); break;
            case 23: case 24: {
                int moves = lot.nextInt(10) == 0 ? lot.nextInt(104) - 2 : 1 + lot.nextInt(5);
                due("better(" + moves + ")", x.better(moves), y.better(moves));
                dueDrawing();
                break;
            }
            case 25: due("can()", x.can(), y.can()); break;
            case 26: case 27: {
                boolean calm = lot.nextInt(3) == 0;
                due("best(" + calm + ")", x.best(calm), y.best(calm));
                dueDrawing();
                break;
            }
            case 28: case 29:
                due("stakes(" + o + ")", x.stakes(o), y.stakes(o));
                dueStakes(o);
                break;
            case 30: due("within(" + o + ")", x.within(o), y.within(o)); break;
            case 31: case 32: case 33: tellSplit(o); break;
            case 34: case 35: {
                int corner = lot.nextInt((wide + 1) * (high + 1) + 2) - 1;
                due("corner(" + corner + ")", x.corner(corner), y.corner(corner));
                break;
            }
            case 36: case 37: due("ditches()", x.ditches(), y.ditches()); break;
            case 38: rareOnes(); break;
            default: {
                int what = lot.nextInt(12) - 1;
                due("count(" + what + ")", x.count(what), y.count(what));
                break;
            }
        }
    }

    private void tellSplit(int o) {
        int sum = x.sum(o);
        int half = sum == Integer.MIN_VALUE ? 0 : sum / 2;
        int low = lot.nextInt(3) == 0 ? half - lot.nextInt(20) : lot.nextInt(40) - 10;
        int high = lot.nextInt(10) == 0 ? lot.nextInt() : low + lot.nextInt(15);
        due("split(" + o + ", " + low + ", " + high + ")", x.split(o, low, high), y.split(o, low, high));
        due("part()", x.part(), y.part());
    }

    private void rareOnes() {
        switch (lot.nextInt(4)) {
            case 0: tellGround(); break;
            case 1: tellBook(lot.nextBoolean() ? lawfulBook() : spoilt(lawfulBook())); break;
            default: due("clear()", x.clear(), y.clear()); break;
        }
    }

    private void dueStakes(int o) {
        int most = lot.nextInt(40);
        for (int i = -1; i <= most; i++) {
            long got = Long.MIN_VALUE;
            long want = Long.MIN_VALUE;
            try {
                got = x.stake(o, i);
            } catch (NoSuchElementException e) {
                got = Long.MAX_VALUE;
            }
            try {
                want = y.stake(o, i);
            } catch (NoSuchElementException e) {
                want = Long.MAX_VALUE;
            }
            TALLY.due(run + "stake(" + o + ", " + i + ")", got, want);
        }
    }

    private void dueDrawing() {
        for (int c = 0; c < wide * high; c++) {
            TALLY.due(run + "call " + calls + ": whose(" + c + ")", x.whose(c), y.whose(c));
        }
    }

    private void dueState() {
        dueDrawing();
        for (int what = 0; what <= 8; what++) {
            TALLY.due(run + "count(" + what + ")", x.count(what), y.count(what));
        }
        for (int o = 0; o < owners; o++) {
            for (int c = 0; c < wide * high; c++) {
                TALLY.due(run + "value(" + o + ", " + c + ")", x.value(o, c), y.value(o, c));
            }
        }
    }
}
