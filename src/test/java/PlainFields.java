import java.util.ArrayDeque;
import java.util.ArrayList;
import java.util.Arrays;
import java.util.HashMap;
import java.util.HashSet;
import java.util.List;
import java.util.Map;
import java.util.NoSuchElementException;
import java.util.Set;

/**
 * The document once more, in the slowest and plainest words, for comparison: nothing is kept that can be
 * reckoned anew, every drawing is weighed whole, and nothing is shared with WholeFields.
 */
final class PlainFields {
    static final int NONE = -1;
    static final int NO_NUMBER = Integer.MIN_VALUE;
    static final List<String> RESERVED =
            List.of("owner", "worth", "soil", "wet", "far", "water", "least", "most");

    /** A worth is a tree: a text for the kind, a number for a whole, and parts. */
    static final class Worth {
        final String kind;
        final int number;
        final List<Worth> parts;

        Worth(String kind, int number, Worth... parts) {
            this.kind = kind;
            this.number = number;
            this.parts = List.of(parts);
        }
    }

    static final class Token {
        final String text;
        final int place;

        Token(String text, int place) {
            this.text = text;
            this.place = place;
        }

        boolean isWord() {
            return !text.isEmpty() && text.charAt(0) >= 'a' && text.charAt(0) <= 'z';
        }

        boolean isWhole() {
            return !text.isEmpty() && text.charAt(0) >= '0' && text.charAt(0) <= '9';
        }
    }

    static final class Fault extends RuntimeException {
        final int number;
        final int place;

        Fault(int number, int place) {
            this.number = number;
            this.place = place;
        }
    }

    /** The tokens are made whole first; a text "?" stands for no token, "" for the end. */
    static final class Parser {
        final List<Token> tokens = new ArrayList<>();
        final List<String> names = new ArrayList<>();
        final List<Worth> worths = new ArrayList<>();
        int at;
        int factors;

        Parser(String text) {
            int i = 0;
            while (i < text.length()) {
                if (text.charAt(i) == ' ') {
                    i++;
                    continue;
                }
                int length = matched(text.substring(i));
                tokens.add(new Token(length == 0 ? "?" : text.substring(i, i + length), i));
                i += Math.max(1, length);
            }
            tokens.add(new Token("", text.length()));
        }

        static int matched(String rest) {
            for (String form : new String[] {"[a-z]+", "[0-9]+", "[;,+*()-]"}) {
                java.util.regex.Matcher m = java.util.regex.Pattern.compile(form).matcher(rest);
                if (m.lookingAt()) {
                    int most = form.equals("[a-z]+") ? 8 : form.equals("[0-9]+") ? 3 : 1;
                    return m.end() > most ? 0 : m.end();
                }
            }
            return 0;
        }

        Token now() {
            return tokens.get(at);
        }

        void need(String text) {
            if (!now().text.equals(text)) {
                throw new Fault(1, now().place);
            }
            at++;
        }

        void readBook() {
            readOwner();
            while (now().text.equals(";")) {
                at++;
                readOwner();
            }
            need("");
        }

        void readOwner() {
            need("owner");
            Token name = now();
            if (!name.isWord() || RESERVED.contains(name.text)) {
                throw new Fault(1, name.place);
            }
            if (names.contains(name.text)) {
                throw new Fault(3, name.place);
            }
            if (names.size() == 6) {
                throw new Fault(5, name.place);
            }
            names.add(name.text);
            at++;
            need("worth");
            factors = 0;
            worths.add(readWorth(0));
        }

        Worth readWorth(int open) {
            Worth left = readTerm(open);
            while (now().text.equals("+") || now().text.equals("-")) {
                String kind = now().text;
                at++;
                left = new Worth(kind, 0, left, readTerm(open));
            }
            return left;
        }

        Worth readTerm(int open) {
            Worth left = readFactor(open);
            while (now().text.equals("*")) {
                at++;
                left = new Worth("*", 0, left, readFactor(open));
            }
            return left;
        }

        Worth readFactor(int open) {
            Token first = now();
            boolean named = RESERVED.indexOf(first.text) >= 2;
            if (!first.isWhole() && !named && !first.text.equals("(")) {
                throw new Fault(1, first.place);
            }
            if (first.isWhole() && Integer.parseInt(first.text) > 99) {
                throw new Fault(4, first.place);
            }
            factors++;
            if (factors > 20) {
                throw new Fault(5, first.place);
            }
            if (first.isWhole()) {
                at++;
                return new Worth("whole", Integer.parseInt(first.text));
            }
            if (first.text.equals("(")) {
                readOpen(open);
                Worth inner = readWorth(open + 1);
                need(")");
                return inner;
            }
            at++;
            if (!first.text.equals("least") && !first.text.equals("most")) {
                return new Worth(first.text, 0);
            }
            readOpen(open);
            Worth one = readWorth(open + 1);
            need(",");
            Worth other = readWorth(open + 1);
            need(")");
            return new Worth(first.text, 0, one, other);
        }

        void readOpen(int open) {
            if (now().text.equals("(") && open == 5) {
                throw new Fault(5, now().place);
            }
            need("(");
        }
    }

    private String tape = "";
    private List<Worth> book = new ArrayList<>();
    private int fault;
    private int place;
    private int trouble;
    private int wide;
    private int high;
    private int[] soil = {};
    private int[] wet = {};
    private boolean[] water = {};
    private int[] kept = {};
    private int[] drawn = {};
    private int[] doors = new int[6];
    private int[] had = new int[6];
    private int width;
    private int limit;
    private int barredAt = NONE;
    private int partBits = NONE;
    private final List<Integer> told = new ArrayList<>();

    private int pass(int answer) {
        trouble = 0;
        return answer;
    }

    private int refuse(int number) {
        trouble = number;
        return NONE;
    }

    private boolean hasGround() {
        return wide > 0;
    }

    private int cells() {
        return wide * high;
    }

    private boolean isCell(int c) {
        return c >= 0 && c < cells();
    }

    private boolean isOwner(int o) {
        return hasGround() && o >= 0 && o < book.size();
    }

    int feed(int a, int b, int c, int d, int e) {
        if (tape.length() + 20 > 500) {
            return NONE;
        }
        StringBuilder more = new StringBuilder(tape);
        for (int four : new int[] {a, b, c, d, e}) {
            more.append((char) (four >> 24 & 255)).append((char) (four >> 16 & 255));
            more.append((char) (four >> 8 & 255)).append((char) (four & 255));
        }
        tape = more.toString();
        return tape.length();
    }

    int book(int n) {
        if (n < 0 || n > tape.length()) {
            return refuse(2);
        }
        Parser parser = new Parser(tape.substring(0, n));
        tape = "";
        try {
            parser.readBook();
        } catch (Fault f) {
            fault = f.number;
            place = f.place;
            return refuse(4);
        }
        fault = 0;
        book = parser.worths;
        wide = 0;
        high = 0;
        doors = new int[6];
        had = new int[6];
        told.clear();
        barredAt = NONE;
        partBits = NONE;
        return pass(book.size());
    }

    int fault() {
        return fault;
    }

    int where() {
        return trouble == 4 ? place : NONE;
    }

    int ground(int w, int h) {
        if (book.isEmpty()) {
            return refuse(1);
        }
        if (w < 1 || w > 8 || h < 1 || h > 8) {
            return refuse(2);
        }
        wide = w;
        high = h;
        soil = new int[w * h];
        Arrays.fill(soil, 5);
        wet = new int[w * h];
        water = new boolean[w * h];
        kept = new int[w * h];
        Arrays.fill(kept, NONE);
        drawn = kept.clone();
        doors = new int[6];
        had = new int[6];
        width = 1;
        limit = 20;
        told.clear();
        barredAt = NONE;
        partBits = NONE;
        return pass(w * h);
    }

    boolean cell(int c, int newSoil, int newWet, boolean isWater) {
        if (!isCell(c)) {
            return refuse(1) == 0;
        }
        if (newSoil < 0 || newSoil > 9 || newWet < 0 || newWet > 9) {
            return refuse(2) == 0;
        }
        soil[c] = newSoil;
        wet[c] = newWet;
        water[c] = isWater;
        return pass(0) == 0;
    }

    boolean door(int owner, int c) {
        if (!isOwner(owner) || !isCell(c)) {
            return refuse(1) == 0;
        }
        doors[owner] = c;
        return pass(0) == 0;
    }

    boolean keep(int c, int owner) {
        if (!isCell(c) || owner != NONE && !isOwner(owner)) {
            return refuse(1) == 0;
        }
        kept[c] = owner;
        return pass(0) == 0;
    }

    boolean had(int owner, int v) {
        if (!isOwner(owner)) {
            return refuse(1) == 0;
        }
        if (v < 0 || v > 1000000) {
            return refuse(2) == 0;
        }
        had[owner] = v;
        return pass(0) == 0;
    }

    boolean set(int what, int v) {
        if (!hasGround() || what != 0 && what != 1) {
            return refuse(1) == 0;
        }
        if (what == 0 ? v != 1 && v != 2 : v < 0 || v > 20) {
            return refuse(2) == 0;
        }
        if (what == 0) {
            width = v;
        } else {
            limit = v;
        }
        return pass(0) == 0;
    }

    private List<Integer> beside(int c) {
        List<Integer> found = new ArrayList<>();
        for (int o = 0; o < cells(); o++) {
            if (Math.abs(o % wide - c % wide) + Math.abs(o / wide - c / wide) == 1) {
                found.add(o);
            }
        }
        return found;
    }

    private int far(int owner, int c) {
        int d = doors[owner];
        return Math.abs(c % wide - d % wide) + Math.abs(c / wide - d / wide);
    }

    private int reckon(Worth w, int owner, int c) {
        List<Integer> v = new ArrayList<>();
        for (Worth p : w.parts) {
            v.add(reckon(p, owner, c));
        }
        switch (w.kind) {
            case "whole": return w.number;
            case "soil": return soil[c];
            case "wet": return wet[c];
            case "far": return far(owner, c);
            case "water": return beside(c).stream().anyMatch(o -> water[o]) ? 1 : 0;
            case "least": return Math.min(v.get(0), v.get(1));
            case "most": return Math.max(v.get(0), v.get(1));
            default: break;
        }
        int raw = w.kind.equals("+") ? v.get(0) + v.get(1)
                : w.kind.equals("-") ? v.get(0) - v.get(1) : v.get(0) * v.get(1);
        return raw > 10000 ? 10000 : raw < -10000 ? -10000 : raw;
    }

    int value(int owner, int c) {
        return isOwner(owner) && isCell(c) ? reckon(book.get(owner), owner, c) : NO_NUMBER;
    }

    boolean draw(int c, int owner) {
        if (!isCell(c) || owner != NONE && !isOwner(owner)) {
            return refuse(1) == 0;
        }
        if (drawn[c] == owner) {
            return refuse(5) == 0;
        }
        drawn[c] = owner;
        return pass(0) == 0;
    }

    int whose(int c) {
        return !isCell(c) ? NONE : drawn[c] == NONE ? -2 : drawn[c];
    }

    private List<Integer> field(int[] d, int owner) {
        List<Integer> found = new ArrayList<>();
        for (int c = 0; c < cells(); c++) {
            if (d[c] == owner) {
                found.add(c);
            }
        }
        return found;
    }

    // The searches ask for the same values over and over; they are reckoned once a call.
    private int[][] table() {
        int[][] t = new int[book.size()][cells()];
        for (int o = 0; o < book.size(); o++) {
            for (int c = 0; c < cells(); c++) {
                t[o][c] = value(o, c);
            }
        }
        return t;
    }

    private int sum(int[][] t, int[] d, int judge, int owner) {
        int s = 0;
        for (int c : field(d, owner)) {
            s += t[judge][c];
        }
        return s;
    }

    int sum(int owner) {
        return isOwner(owner) ? sum(table(), drawn, owner, owner) : NO_NUMBER;
    }

    private int total(int[][] t, int[] d) {
        int s = 0;
        for (int o = 0; o < book.size(); o++) {
            s += sum(t, d, o, o);
        }
        return s;
    }

    private int shortage(int[][] t, int[] d) {
        int s = 0;
        for (int o = 0; o < book.size(); o++) {
            s += Math.max(0, had[o] - sum(t, d, o, o));
        }
        return s;
    }

    private boolean envy(int[][] t, int[] d, int owner, int other) {
        return owner != other && !field(d, other).isEmpty() && sum(t, d, owner, other) > sum(t, d, owner, owner);
    }

    private int pairs(int[][] t, int[] d) {
        int s = 0;
        for (int o = 0; o < book.size(); o++) {
            for (int p = 0; p < book.size(); p++) {
                s += envy(t, d, o, p) ? 1 : 0;
            }
        }
        return s;
    }

    private boolean yes(int owner) {
        if (sum(owner) < had[owner]) {
            return false;
        }
        for (int c : field(drawn, owner)) {
            if (far(owner, c) > limit) {
                return false;
            }
        }
        return true;
    }

    private int bound(int[][] t) {
        int s = 0;
        for (int c = 0; c < cells(); c++) {
            if (!water[c]) {
                int most = NO_NUMBER;
                for (int o = 0; o < book.size(); o++) {
                    if (kept[c] == NONE || kept[c] == o) {
                        most = Math.max(most, t[o][c]);
                    }
                }
                s += most;
            }
        }
        return s;
    }

    int total(int what) {
        if (!hasGround() || what < 0 || what > 6) {
            refuse(1);
            return NO_NUMBER;
        }
        int[][] t = table();
        int found = 0;
        switch (what) {
            case 0: return pass(total(t, drawn));
            case 1: return pass(shortage(t, drawn));
            case 2: return pass(bound(t));
            case 3: return pass(bound(t) - total(t, drawn));
            case 4: return pass(pairs(t, drawn));
            case 5:
                for (int o = 0; o < book.size(); o++) {
                    found += yes(o) ? 1 : 0;
                }
                return pass(found);
            default:
                for (int c = 0; c < cells(); c++) {
                    for (int o : beside(c)) {
                        found += o > c && drawn[o] != drawn[c] ? 1 : 0;
                    }
                }
                return pass(found);
        }
    }

    private boolean hangs(List<Integer> set) {
        if (set.isEmpty()) {
            return true;
        }
        Set<Integer> seen = new HashSet<>();
        ArrayDeque<Integer> open = new ArrayDeque<>();
        open.add(set.get(0));
        seen.add(set.get(0));
        while (!open.isEmpty()) {
            for (int o : beside(open.remove())) {
                if (set.contains(o) && seen.add(o)) {
                    open.add(o);
                }
            }
        }
        return seen.size() == set.size();
    }

    private boolean inSquare(int[] d, int c) {
        for (int y = c / wide - 1; y <= c / wide; y++) {
            for (int x = c % wide - 1; x <= c % wide; x++) {
                if (x >= 0 && y >= 0 && x + 1 < wide && y + 1 < high) {
                    int k = y * wide + x;
                    if (d[k] == d[c] && d[k + 1] == d[c] && d[k + wide] == d[c] && d[k + wide + 1] == d[c]) {
                        return true;
                    }
                }
            }
        }
        return false;
    }

    /** The sort and the place of what bars a drawing. */
    private int[] bar(int[] d) {
        for (int c = 0; c < cells(); c++) {
            if (d[c] == NONE && !water[c]) {
                return new int[] {1, c};
            }
        }
        for (int c = 0; c < cells(); c++) {
            if (kept[c] != NONE && d[c] != kept[c]) {
                return new int[] {2, c};
            }
        }
        for (int o = 0; o < book.size(); o++) {
            if (!hangs(field(d, o))) {
                return new int[] {3, o};
            }
        }
        for (int c = 0; width == 2 && c < cells(); c++) {
            if (d[c] != NONE && !inSquare(d, c)) {
                return new int[] {4, c};
            }
        }
        return new int[] {0, -2};
    }

    int bars() {
        if (!hasGround()) {
            return refuse(1);
        }
        int[] b = bar(drawn);
        barredAt = b[1];
        return pass(b[0]);
    }

    int barred() {
        return barredAt;
    }

    int envies(int owner, int other) {
        if (!isOwner(owner) || !isOwner(other) || owner == other) {
            return refuse(1);
        }
        return pass(envy(table(), drawn, owner, other) ? 1 : 0);
    }

    int votes(int owner) {
        return isOwner(owner) ? pass(yes(owner) ? 1 : 0) : refuse(1);
    }

    int grow() {
        if (!hasGround()) {
            return refuse(1);
        }
        drawn = kept.clone();
        for (int o = 0; o < book.size(); o++) {
            if (drawn[doors[o]] == NONE && !water[doors[o]]) {
                drawn[doors[o]] = o;
            }
        }
        int passed = 0;
        for (int turn = 0; passed < book.size(); turn = (turn + 1) % book.size()) {
            int best = NONE;
            for (int c = 0; c < cells(); c++) {
                int owner = turn;
                if (drawn[c] == NONE && !water[c] && beside(c).stream().anyMatch(o -> drawn[o] == owner)
                        && (best == NONE || value(turn, c) > value(turn, best))) {
                    best = c;
                }
            }
            if (best == NONE) {
                passed++;
            } else {
                passed = 0;
                drawn[best] = turn;
            }
        }
        int left = 0;
        for (int c = 0; c < cells(); c++) {
            left += drawn[c] == NONE && !water[c] ? 1 : 0;
        }
        return pass(left);
    }

    private boolean isBetter(int[][] t, int[] d, int[] than) {
        int s = shortage(t, d);
        int r = shortage(t, than);
        return s < r || s == r && total(t, d) > total(t, than);
    }

    private List<int[]> moves() {
        List<int[]> found = new ArrayList<>();
        for (int c = 0; c < cells(); c++) {
            for (int o = 0; o < book.size(); o++) {
                if (!water[c] && drawn[c] != o) {
                    int[] d = drawn.clone();
                    d[c] = o;
                    found.add(d);
                }
            }
        }
        for (int c = 0; c < cells(); c++) {
            for (int o = c + 1; o < cells(); o++) {
                if (!water[c] && !water[o] && drawn[c] != drawn[o]) {
                    int[] d = drawn.clone();
                    d[c] = drawn[o];
                    d[o] = drawn[c];
                    found.add(d);
                }
            }
        }
        return found;
    }

    private int[] bestMove() {
        int[][] t = table();
        int[] best = drawn;
        for (int[] d : moves()) {
            if (isBetter(t, d, best) && bar(d)[0] == 0) {
                best = d;
            }
        }
        return best == drawn ? null : best;
    }

    int better(int moves) {
        if (!hasGround()) {
            return refuse(1);
        }
        if (moves < 1 || moves > 100) {
            return refuse(2);
        }
        if (bar(drawn)[0] != 0) {
            return refuse(5);
        }
        int made = 0;
        for (int[] d = bestMove(); d != null && made < moves; d = bestMove()) {
            drawn = d;
            made++;
        }
        return pass(made);
    }

    int can() {
        if (!hasGround()) {
            return refuse(1);
        }
        return bar(drawn)[0] != 0 ? refuse(5) : pass(bestMove() == null ? 0 : 1);
    }

    int best(boolean calm) {
        List<Integer> dry = new ArrayList<>();
        for (int c = 0; c < cells(); c++) {
            if (!water[c]) {
                dry.add(c);
            }
        }
        if (!hasGround() || dry.size() > 9 || book.size() > 3) {
            refuse(hasGround() ? 5 : 1);
            return NO_NUMBER;
        }
        int[][] t = table();
        int[] best = null;
        int ways = 1;
        for (int i = 0; i < dry.size(); i++) {
            ways *= book.size();
        }
        for (int w = 0; w < ways; w++) {
            int[] d = new int[cells()];
            Arrays.fill(d, NONE);
            int rest = w;
            for (int i = dry.size() - 1; i >= 0; i--) {
                d[dry.get(i)] = rest % book.size();
                rest /= book.size();
            }
            int calmer = best == null || !calm ? 0 : Integer.compare(pairs(t, d), pairs(t, best));
            if ((best == null || calmer < 0 || calmer == 0 && isBetter(t, d, best)) && bar(d)[0] == 0) {
                best = d;
            }
        }
        if (best == null) {
            refuse(6);
            return NO_NUMBER;
        }
        drawn = best;
        return pass(total(t, best));
    }

    /** The border as sides from corner to corner with the field to the right, then gone along. */
    private List<Integer> walk(int owner) {
        List<Integer> set = field(drawn, owner);
        List<Integer> turns = new ArrayList<>();
        if (set.isEmpty() || !hangs(set)) {
            return turns;
        }
        // A side is told by the cell it belongs to and the way along it: 0 east, 1 south, 2 west, 3 north.
        int[][] across = {{0, -1}, {1, 0}, {0, 1}, {-1, 0}};
        int[][] along = {{1, 0}, {0, 1}, {-1, 0}, {0, -1}};
        int[][] begin = {{0, 0}, {1, 0}, {1, 1}, {0, 1}};
        int first = set.get(0) * 4;
        int side = first;
        do {
            int c = side / 4;
            int way = side % 4;
            int x = c % wide;
            int y = c / wide;
            int right = (way + 1) % 4;
            int left = (way + 3) % 4;
            int ahead = at(set, x + along[way][0], y + along[way][1]);
            int over = at(set, x + along[way][0] + across[way][0], y + along[way][1] + across[way][1]);
            int next = ahead == NONE ? c * 4 + right : over == NONE ? ahead * 4 + way : over * 4 + left;
            if (next % 4 != way) {
                int end = next / 4;
                int newWay = next % 4;
                int cx = end % wide + begin[newWay][0];
                int cy = end / wide + begin[newWay][1];
                turns.add((wide + 1) * cy + cx);
            }
            side = next;
        } while (side != first);
        // The last turn is the one at the start.
        turns.add(0, turns.remove(turns.size() - 1));
        return turns;
    }

    private int at(List<Integer> set, int x, int y) {
        return x >= 0 && y >= 0 && x < wide && y < high && set.contains(y * wide + x) ? y * wide + x : NONE;
    }

    int stakes(int owner) {
        if (!isOwner(owner)) {
            return refuse(1);
        }
        List<Integer> turns = walk(owner);
        return turns.isEmpty() ? refuse(5) : pass(turns.size());
    }

    int stake(int owner, int i) {
        List<Integer> turns = isOwner(owner) ? walk(owner) : List.of();
        if (i < 0 || i >= turns.size()) {
            throw new NoSuchElementException();
        }
        return turns.get(i);
    }

    int within(int owner) {
        if (!isOwner(owner)) {
            return refuse(1);
        }
        if (walk(owner).isEmpty()) {
            return refuse(5);
        }
        // The outside comes in from a rim round the ground, over corners too: the border leaves them open.
        List<Integer> set = field(drawn, owner);
        boolean[][] out = new boolean[wide + 2][high + 2];
        ArrayDeque<int[]> open = new ArrayDeque<>();
        open.add(new int[] {0, 0});
        out[0][0] = true;
        while (!open.isEmpty()) {
            int[] p = open.remove();
            for (int k = 0; k < 9; k++) {
                int x = p[0] + k % 3 - 1;
                int y = p[1] + k / 3 - 1;
                if (x >= 0 && y >= 0 && x < wide + 2 && y < high + 2 && !out[x][y]
                        && at(set, x - 1, y - 1) == NONE) {
                    out[x][y] = true;
                    open.add(new int[] {x, y});
                }
            }
        }
        int found = 0;
        for (int c = 0; c < cells(); c++) {
            found += out[c % wide + 1][c / wide + 1] ? 0 : 1;
        }
        return pass(found);
    }

    int split(int owner, int low, int high) {
        if (!isOwner(owner)) {
            return refuse(1);
        }
        if (low > high) {
            return refuse(2);
        }
        List<Integer> set = field(drawn, owner);
        if (set.size() > 12 || set.size() < 2 || !hangs(set)) {
            return refuse(5);
        }
        int[] least = null;
        for (int bits = 1; bits < (1 << set.size()) - 1; bits++) {
            List<Integer> one = new ArrayList<>();
            List<Integer> other = new ArrayList<>();
            int sum = 0;
            for (int i = 0; i < set.size(); i++) {
                boolean in = (bits >> i & 1) == 1;
                (in ? one : other).add(set.get(i));
                sum += in ? value(owner, set.get(i)) : 0;
            }
            if (sum < low || sum > high || !hangs(one) || !hangs(other)) {
                continue;
            }
            int border = 0;
            for (int c : one) {
                for (int o : beside(c)) {
                    border += other.contains(o) ? 1 : 0;
                }
            }
            int[] key = {border, one.size(), bits};
            if (least == null || Arrays.compare(key, least) < 0) {
                least = key;
            }
        }
        if (least == null) {
            return refuse(6);
        }
        partBits = least[2];
        return pass(least[0]);
    }

    int part() {
        return partBits;
    }

    int corner(int c) {
        if (!hasGround() || c < 0 || c >= (wide + 1) * (high + 1)) {
            return refuse(1);
        }
        if (told.size() == 4) {
            return refuse(3);
        }
        if (told.contains(c)) {
            return refuse(5);
        }
        told.add(c);
        return pass(told.size());
    }

    int clear() {
        int were = told.size();
        told.clear();
        return were;
    }

    private int[][] ways() {
        int n = (wide + 1) * (high + 1);
        int[][] d = new int[n][n];
        for (int[] row : d) {
            Arrays.fill(row, 9999);
        }
        for (int i = 0; i < n; i++) {
            d[i][i] = 0;
        }
        for (int c = 0; c < cells(); c++) {
            int x = c % wide;
            int y = c / wide;
            int corner = (wide + 1) * y + x;
            if (x + 1 < wide && drawn[c] != drawn[c + 1]) {
                d[corner + 1][corner + 1 + wide + 1] = 1;
                d[corner + 1 + wide + 1][corner + 1] = 1;
            }
            if (y + 1 < high && drawn[c] != drawn[c + wide]) {
                d[corner + wide + 1][corner + wide + 2] = 1;
                d[corner + wide + 2][corner + wide + 1] = 1;
            }
        }
        for (int k = 0; k < n; k++) {
            for (int i = 0; i < n; i++) {
                for (int j = 0; j < n; j++) {
                    d[i][j] = Math.min(d[i][j], d[i][k] + d[k][j]);
                }
            }
        }
        return d;
    }

    /** A least tree of four corners forks at two corners at most: all pairs of them are tried. */
    int ditches() {
        if (!hasGround()) {
            return refuse(1);
        }
        if (told.isEmpty()) {
            return refuse(5);
        }
        int[][] d = ways();
        int[] t = new int[4];
        for (int i = 0; i < 4; i++) {
            t[i] = told.get(Math.min(i, told.size() - 1));
        }
        int[][] orders = {{0, 1, 2, 3}, {0, 2, 1, 3}, {0, 3, 1, 2}};
        int least = 9999;
        for (int[] o : orders) {
            for (int p = 0; p < d.length; p++) {
                for (int q = 0; q < d.length; q++) {
                    least = Math.min(least, d[t[o[0]]][p] + d[t[o[1]]][p] + d[p][q] + d[q][t[o[2]]] + d[q][t[o[3]]]);
                }
            }
        }
        return least < 9999 ? pass(least) : refuse(6);
    }

    int count(int what) {
        int waters = 0;
        int keeps = 0;
        int frees = 0;
        for (int c = 0; c < cells(); c++) {
            waters += water[c] ? 1 : 0;
            keeps += kept[c] != NONE ? 1 : 0;
            frees += drawn[c] == NONE ? 1 : 0;
        }
        Map<Integer, Integer> counts = new HashMap<>();
        counts.put(0, book.size());
        counts.put(1, cells());
        counts.put(2, waters);
        counts.put(3, keeps);
        counts.put(4, frees);
        counts.put(5, told.size());
        counts.put(6, hasGround() ? width : 0);
        counts.put(7, hasGround() ? limit : 0);
        counts.put(8, tape.length());
        return counts.getOrDefault(what, NONE);
    }

    int trouble() {
        return trouble;
    }
}
