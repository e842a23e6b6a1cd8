import java.util.Arrays;
import java.util.NoSuchElementException;

/** A village that brings its strips together. README.md says how to use it. */
public final class WholeFields {
    public static final int NONE = -1;

    private static final int NO_ONE = -2;
    private static final int NOT_BARRED = -2;
    private static final int NO_NUMBER = -2147483648;

    private static final int MOST_OWNERS = 6;
    private static final int MOST_SIDE = 8;
    private static final int MOST_CELLS = 64;
    private static final int TAPE_BYTES = 500;
    private static final int FEED_BYTES = 20;
    private static final int MOST_HAD = 1000000;
    private static final int MOST_LIMIT = 20;
    private static final int MOST_MOVES = 100;

    private static final int NONE_SUCH = 1;
    private static final int BAD_NUMBER = 2;
    private static final int NO_ROOM = 3;
    private static final int FAULTY = 4;
    private static final int NOT_SO = 5;
    private static final int NO_WAY = 6;

    private final byte[] tape;
    private final Reader reader;
    private final Ground ground;
    private final Drawing drawing;
    private final Accounts accounts;
    private final Mover mover;
    private final Finder finder;
    private final Walker walker;
    private final Splitter splitter;
    private final Ditcher ditcher;
    private int held;
    private int fault;
    private int place;
    private int barredAt;
    private int partBits;
    private int trouble;

    public WholeFields() {
        tape = new byte[TAPE_BYTES];
        reader = new Reader(tape);
        ground = new Ground();
        drawing = new Drawing(ground);
        accounts = new Accounts(ground, drawing);
        mover = new Mover(ground, drawing, accounts);
        finder = new Finder(ground, drawing);
        walker = new Walker(ground);
        splitter = new Splitter(ground);
        ditcher = new Ditcher(ground, drawing);
        forgetGround();
    }

    // ---- the book

    public int feed(int a, int b, int c, int d, int e) {
        if (held + FEED_BYTES > TAPE_BYTES) {
            return NONE;
        }
        putFour(a);
        putFour(b);
        putFour(c);
        putFour(d);
        putFour(e);
        return held;
    }

    public int book(int n) {
        if (n < 0 || n > held) {
            return refuse(BAD_NUMBER);
        }
        held = 0;
        boolean read = reader.read(n);
        fault = reader.fault;
        place = reader.place;
        if (!read) {
            return refuse(FAULTY);
        }
        // The two books change places, so that reading never makes a new one.
        Book old = ground.book;
        ground.book = reader.draft;
        reader.draft = old;
        ground.leave();
        forgetGround();
        return pass(ground.book.owners);
    }

    public int fault() {
        return fault;
    }

    public int where() {
        return trouble == FAULTY ? place : NONE;
    }

    // ---- the ground

    public int ground(int wide, int high) {
        if (ground.book.owners == 0) {
            return refuse(NONE_SUCH);
        }
        if (wide < 1 || wide > MOST_SIDE || high < 1 || high > MOST_SIDE) {
            return refuse(BAD_NUMBER);
        }
        ground.lay(wide, high);
        forgetGround();
        return pass(ground.cells);
    }

    public boolean cell(int c, int soil, int wet, boolean water) {
        if (!ground.isCell(c)) {
            return deny(NONE_SUCH);
        }
        if (soil < 0 || soil > 9 || wet < 0 || wet > 9) {
            return deny(BAD_NUMBER);
        }
        ground.change(c, soil, wet, water);
        return allow();
    }

    public boolean door(int owner, int c) {
        if (!ground.isOwner(owner) || !ground.isCell(c)) {
            return deny(NONE_SUCH);
        }
        ground.moveDoor(owner, c);
        return allow();
    }

    public boolean keep(int c, int owner) {
        if (!ground.isCell(c) || owner != NONE && !ground.isOwner(owner)) {
            return deny(NONE_SUCH);
        }
        ground.kept[c] = owner;
        return allow();
    }

    public boolean had(int owner, int v) {
        if (!ground.isOwner(owner)) {
            return deny(NONE_SUCH);
        }
        if (v < 0 || v > MOST_HAD) {
            return deny(BAD_NUMBER);
        }
        ground.had[owner] = v;
        return allow();
    }

    public boolean set(int what, int v) {
        if (!ground.stands() || what < 0 || what > 1) {
            return deny(NONE_SUCH);
        }
        if (what == 0) {
            if (v < 1 || v > 2) {
                return deny(BAD_NUMBER);
            }
            ground.width = v;
        } else {
            if (v < 0 || v > MOST_LIMIT) {
                return deny(BAD_NUMBER);
            }
            ground.limit = v;
        }
        return allow();
    }

    public int value(int owner, int c) {
        if (!ground.isOwner(owner) || !ground.isCell(c)) {
            return NO_NUMBER;
        }
        return ground.price(owner, c);
    }

    // ---- a drawing

    public boolean draw(int c, int owner) {
        if (!ground.isCell(c) || owner != NONE && !ground.isOwner(owner)) {
            return deny(NONE_SUCH);
        }
        if (drawing.holder[c] == owner) {
            return deny(NOT_SO);
        }
        drawing.give(c, owner);
        return allow();
    }

    public int whose(int c) {
        if (!ground.isCell(c)) {
            return NONE;
        }
        int owner = drawing.holder[c];
        return owner == NONE ? NO_ONE : owner;
    }

    public int sum(int owner) {
        return ground.isOwner(owner) ? accounts.sumOf(owner) : NO_NUMBER;
    }

    public int total(int what) {
        if (!ground.stands() || what < 0 || what > 6) {
            return refuseNumber(NONE_SUCH);
        }
        return pass(accounts.tell(what));
    }

    public int bars() {
        if (!ground.stands()) {
            return refuse(NONE_SUCH);
        }
        int sort = drawing.findBar();
        barredAt = drawing.barAt;
        return pass(sort);
    }

    public int barred() {
        return barredAt;
    }

    public int envies(int owner, int other) {
        if (!ground.isOwner(owner) || !ground.isOwner(other) || owner == other) {
            return refuse(NONE_SUCH);
        }
        return pass(accounts.feelsEnvy(owner, other) ? 1 : 0);
    }

    public int votes(int owner) {
        if (!ground.isOwner(owner)) {
            return refuse(NONE_SUCH);
        }
        return pass(accounts.saysYes(owner) ? 1 : 0);
    }

    // ---- drawings found

    public int grow() {
        if (!ground.stands()) {
            return refuse(NONE_SUCH);
        }
        drawing.growFromDoors();
        return pass(Long.bitCount(drawing.free()));
    }

    public int better(int moves) {
        if (!ground.stands()) {
            return refuse(NONE_SUCH);
        }
        if (moves < 1 || moves > MOST_MOVES) {
            return refuse(BAD_NUMBER);
        }
        if (drawing.findBar() != 0) {
            return refuse(NOT_SO);
        }
        return pass(mover.run(moves));
    }

    public int can() {
        if (!ground.stands()) {
            return refuse(NONE_SUCH);
        }
        if (drawing.findBar() != 0) {
            return refuse(NOT_SO);
        }
        return pass(mover.seek() ? 1 : 0);
    }

    public int best(boolean calm) {
        if (!ground.stands()) {
            return refuseNumber(NONE_SUCH);
        }
        if (!finder.isFew()) {
            return refuseNumber(NOT_SO);
        }
        if (!finder.search(calm)) {
            return refuseNumber(NO_WAY);
        }
        return pass(finder.bestTotal);
    }

    // ---- borders

    public int stakes(int owner) {
        if (!ground.isOwner(owner)) {
            return refuse(NONE_SUCH);
        }
        if (!walker.walk(drawing.fields[owner])) {
            return refuse(NOT_SO);
        }
        return pass(walker.turns);
    }

    public int stake(int owner, int i) throws NoSuchElementException {
        if (!ground.isOwner(owner) || !walker.walk(drawing.fields[owner]) || i < 0 || i >= walker.turns) {
            throw new NoSuchElementException("there is no such stake");
        }
        return walker.numberOf(i);
    }

    public int within(int owner) {
        if (!ground.isOwner(owner)) {
            return refuse(NONE_SUCH);
        }
        if (!walker.walk(drawing.fields[owner])) {
            return refuse(NOT_SO);
        }
        return pass(walker.area());
    }

    public int split(int owner, int low, int high) {
        if (!ground.isOwner(owner)) {
            return refuse(NONE_SUCH);
        }
        if (low > high) {
            return refuse(BAD_NUMBER);
        }
        if (!splitter.take(owner, drawing.fields[owner])) {
            return refuse(NOT_SO);
        }
        if (!splitter.search(low, high)) {
            return refuse(NO_WAY);
        }
        partBits = splitter.bestBits;
        return pass(splitter.bestBorder);
    }

    public int part() {
        return partBits;
    }

    public int corner(int c) {
        if (c < 0 || c >= ground.corners()) {
            return refuse(NONE_SUCH);
        }
        if (ditcher.isFull()) {
            return refuse(NO_ROOM);
        }
        if (ditcher.isTold(c)) {
            return refuse(NOT_SO);
        }
        ditcher.tell(c);
        return pass(ditcher.told);
    }

    public int clear() {
        int were = ditcher.told;
        ditcher.told = 0;
        return were;
    }

    public int ditches() {
        if (!ground.stands()) {
            return refuse(NONE_SUCH);
        }
        if (ditcher.told == 0) {
            return refuse(NOT_SO);
        }
        int length = ditcher.leastLength();
        return length == NONE ? refuse(NO_WAY) : pass(length);
    }

    public int count(int what) {
        switch (what) {
            case 0: return ground.book.owners;
            case 1: return ground.cells;
            case 2: return Long.bitCount(ground.water);
            case 3: return ground.keptCells();
            case 4: return Long.bitCount(ground.all & ~drawing.owned());
            case 5: return ditcher.told;
            case 6: return ground.width;
            case 7: return ground.limit;
            case 8: return held;
            default: return NONE;
        }
    }

    public int trouble() {
        return trouble;
    }

    private void putFour(int four) {
        for (int shift = 24; shift >= 0; shift -= 8) {
            if (held < TAPE_BYTES) {
                tape[held] = (byte) (four >>> shift);
                held++;
            }
        }
    }

    /** What was drawn, told and answered on a ground goes with it, whether a new one or none comes in its place. */
    private void forgetGround() {
        drawing.wipe();
        ditcher.told = 0;
        barredAt = NONE;
        partBits = NONE;
    }

    private int pass(int answer) {
        trouble = 0;
        return answer;
    }

    private boolean allow() {
        trouble = 0;
        return true;
    }

    private int refuse(int number) {
        trouble = number;
        return NONE;
    }

    private int refuseNumber(int number) {
        trouble = number;
        return NO_NUMBER;
    }

    private boolean deny(int number) {
        trouble = number;
        return false;
    }

    /** The worths of all owners, each as a row of steps that a stack reckons. */
    private static final class Book {
        static final int MOST_FACTORS = 20;
        // 20 factors are joined by at most 19 signs.
        static final int ROW = 2 * MOST_FACTORS;
        static final int CUT = 10000;

        // Steps below SOIL are the wholes themselves.
        static final int SOIL = 100;
        static final int WET = 101;
        static final int FAR = 102;
        static final int WATER = 103;
        static final int PLUS = 104;
        static final int MINUS = 105;
        static final int TIMES = 106;
        static final int LEAST = 107;
        static final int MOST = 108;

        final int[] steps = new int[MOST_OWNERS * ROW];
        final int[] lengths = new int[MOST_OWNERS];
        final int[] stack = new int[MOST_FACTORS];
        int owners;

        void begin() {
            owners = 0;
        }

        void addOwner() {
            if (owners < MOST_OWNERS) {
                lengths[owners] = 0;
                owners++;
            }
        }

        void addStep(int step) {
            int row = owners - 1;
            if (row >= 0 && row < MOST_OWNERS && lengths[row] < ROW) {
                steps[row * ROW + lengths[row]] = step;
                lengths[row]++;
            }
        }

        int reckon(int owner, int soil, int wet, int far, int water) {
            if (owner < 0 || owner >= owners) {
                return 0;
            }
            int top = 0;
            int start = owner * ROW;
            int end = start + lengths[owner];
            for (int i = start; i < end; i++) {
                int step = steps[i];
                if (step >= PLUS) {
                    if (top >= 2) {
                        top--;
                        stack[top - 1] = join(step, stack[top - 1], stack[top]);
                    }
                } else if (top < MOST_FACTORS) {
                    stack[top] = single(step, soil, wet, far, water);
                    top++;
                }
            }
            return stack[0];
        }

        private static int single(int step, int soil, int wet, int far, int water) {
            switch (step) {
                case SOIL: return soil;
                case WET: return wet;
                case FAR: return far;
                case WATER: return water;
                default: return step;
            }
        }

        private static int join(int step, int a, int b) {
            switch (step) {
                case PLUS: return cut(a + b);
                case MINUS: return cut(a - b);
                case TIMES: return cut(a * b);
                case LEAST: return Math.min(a, b);
                default: return Math.max(a, b);
            }
        }

        private static int cut(int v) {
            return Math.max(-CUT, Math.min(CUT, v));
        }
    }

    /** Parts the tape's text in tokens. */
    private static final class Scanner {
        static final int MOST_LETTERS = 8;
        static final int MOST_DIGITS = 3;

        final byte[] tape;
        int end;
        int next;

        // The token at hand: one of word, whole and sign tells it; none does at the end or where no token begins.
        int start;
        long word;
        int whole;
        int sign;

        Scanner(byte[] tape) {
            this.tape = tape;
        }

        void begin(int n) {
            end = Math.max(0, Math.min(n, TAPE_BYTES));
            next = 0;
        }

        boolean isAtEnd() {
            return start >= end;
        }

        void advance() {
            word = 0;
            whole = NONE;
            sign = 0;
            while (next < end && tape[next] == ' ') {
                next++;
            }
            start = next;
            if (next >= end) {
                return;
            }
            int b = tape[next];
            if (isLetter(b)) {
                readWord();
            } else if (isDigit(b)) {
                readWhole();
            } else if (isSign(b)) {
                sign = b;
                next++;
            }
        }

        /** A word is its letters as bytes of one number, so that words are compared at once. */
        private void readWord() {
            long letters = 0;
            while (next < end && isLetter(tape[next])) {
                letters = letters << 8 | tape[next];
                next++;
            }
            word = next - start <= MOST_LETTERS ? letters : 0;
        }

        private void readWhole() {
            int v = 0;
            while (next < end && isDigit(tape[next])) {
                v = v * 10 + (tape[next] - '0');
                next++;
            }
            whole = next - start <= MOST_DIGITS ? v : NONE;
        }

        private static boolean isLetter(int b) {
            return b >= 'a' && b <= 'z';
        }

        private static boolean isDigit(int b) {
            return b >= '0' && b <= '9';
        }

        private static boolean isSign(int b) {
            return b == ';' || b == ',' || b == '+' || b == '-' || b == '*' || b == '(' || b == ')';
        }
    }

    /** Reads tokens into a draft of a book, up to the first fault. */
    private static final class Reader {
        static final int FORM = 1;
        static final int TOLD_AGAIN = 3;
        static final int TOO_GREAT = 4;
        static final int MANY = 5;

        static final int MOST_WHOLE = 99;
        static final int MOST_OPEN = 5;

        static final long OWNER = 0x6F776E6572L;
        static final long WORTH = 0x776F727468L;
        static final long SOIL = 0x736F696CL;
        static final long WET = 0x776574L;
        static final long FAR = 0x666172L;
        static final long WATER = 0x7761746572L;
        static final long LEAST = 0x6C65617374L;
        static final long MOST = 0x6D6F7374L;

        // What must come next.
        static final int AT_OWNER = 0;
        static final int AT_NAME = 1;
        static final int AT_WORTH = 2;
        static final int AT_FACTOR = 3;
        static final int AT_OPEN = 4;
        static final int BEHIND_FACTOR = 5;
        static final int ENDED = 6;

        final Scanner scanner;
        final long[] names = new long[MOST_OWNERS];
        Book draft = new Book();
        int fault;
        int place;
        int state;
        int factors;
        int chooserAhead;

        // A worth stands open at 0, and one more behind each ( that is open. Of each: the steps that wait
        // for the end of its factor, its term and itself, and whether a comma must end it.
        final boolean[] product = new boolean[MOST_OPEN + 1];
        final int[] addition = new int[MOST_OPEN + 1];
        final int[] chooser = new int[MOST_OPEN + 1];
        final boolean[] comma = new boolean[MOST_OPEN + 1];
        int open;

        Reader(byte[] tape) {
            scanner = new Scanner(tape);
        }

        boolean read(int n) {
            fault = 0;
            place = 0;
            state = AT_OWNER;
            draft.begin();
            scanner.begin(n);
            // Each round takes a token of one byte at least, the last one the end.
            for (int i = 0; i <= TAPE_BYTES && fault == 0 && state != ENDED; i++) {
                scanner.advance();
                takeToken();
            }
            return fault == 0;
        }

        private void fail(int number) {
            fault = number;
            place = scanner.start;
        }

        private void takeToken() {
            switch (state) {
                case AT_OWNER:
                    goOn(scanner.word == OWNER, AT_NAME);
                    break;
                case AT_NAME:
                    takeName();
                    break;
                case AT_WORTH:
                    goOn(scanner.word == WORTH, AT_FACTOR);
                    break;
                case AT_FACTOR:
                    takeFactor();
                    break;
                case AT_OPEN:
                    takeOpen();
                    break;
                default:
                    takeBehindFactor();
                    break;
            }
        }

        private void goOn(boolean isDue, int newState) {
            if (isDue) {
                state = newState;
            } else {
                fail(FORM);
            }
        }

        private void takeName() {
            long name = scanner.word;
            if (name == 0 || name == OWNER || name == WORTH || stepOf(name) != NONE) {
                fail(FORM);
            } else if (isNameTold(name)) {
                fail(TOLD_AGAIN);
            } else if (draft.owners >= MOST_OWNERS) {
                fail(MANY);
            } else {
                names[draft.owners] = name;
                draft.addOwner();
                factors = 0;
                open = 0;
                beginWorth(NONE, false);
                state = AT_WORTH;
            }
        }

        private boolean isNameTold(long name) {
            for (int i = 0; i < draft.owners && i < MOST_OWNERS; i++) {
                if (names[i] == name) {
                    return true;
                }
            }
            return false;
        }

        /** The step of a word that begins a factor, or NONE. */
        private static int stepOf(long word) {
            if (word == SOIL) {
                return Book.SOIL;
            }
            if (word == WET) {
                return Book.WET;
            }
            if (word == FAR) {
                return Book.FAR;
            }
            if (word == WATER) {
                return Book.WATER;
            }
            if (word == LEAST) {
                return Book.LEAST;
            }
            return word == MOST ? Book.MOST : NONE;
        }

        private void takeFactor() {
            int step = scanner.whole != NONE ? scanner.whole : stepOf(scanner.word);
            if (step == NONE && scanner.sign != '(') {
                fail(FORM);
            } else if (scanner.whole > MOST_WHOLE) {
                fail(TOO_GREAT);
            } else if (factors >= Book.MOST_FACTORS) {
                fail(MANY);
            } else {
                factors++;
                beginFactor(step);
            }
        }

        private void beginFactor(int step) {
            if (step == NONE) {
                openWorth(NONE);
            } else if (step == Book.LEAST || step == Book.MOST) {
                chooserAhead = step;
                state = AT_OPEN;
            } else {
                draft.addStep(step);
                state = BEHIND_FACTOR;
            }
        }

        private void takeOpen() {
            if (scanner.sign == '(') {
                openWorth(chooserAhead);
            } else {
                fail(FORM);
            }
        }

        private void openWorth(int newChooser) {
            if (open >= MOST_OPEN) {
                fail(MANY);
            } else {
                open++;
                beginWorth(newChooser, newChooser != NONE);
                state = AT_FACTOR;
            }
        }

        private void beginWorth(int newChooser, boolean isCommaDue) {
            product[open] = false;
            addition[open] = NONE;
            chooser[open] = newChooser;
            comma[open] = isCommaDue;
        }

        private void takeBehindFactor() {
            int sign = scanner.sign;
            endFactor();
            if (sign == '*') {
                product[open] = true;
                state = AT_FACTOR;
                return;
            }
            endTerm();
            if (sign == '+' || sign == '-') {
                addition[open] = sign == '+' ? Book.PLUS : Book.MINUS;
                state = AT_FACTOR;
            } else if (sign == ',' && comma[open]) {
                comma[open] = false;
                state = AT_FACTOR;
            } else if (sign == ')' && open > 0 && !comma[open]) {
                closeWorth();
            } else if (sign == ';' && open == 0) {
                state = AT_OWNER;
            } else {
                goOn(scanner.isAtEnd() && open == 0, ENDED);
            }
        }

        private void endFactor() {
            if (product[open]) {
                draft.addStep(Book.TIMES);
                product[open] = false;
            }
        }

        private void endTerm() {
            if (addition[open] != NONE) {
                draft.addStep(addition[open]);
                addition[open] = NONE;
            }
        }

        private void closeWorth() {
            if (chooser[open] != NONE) {
                draft.addStep(chooser[open]);
            }
            open--;
        }
    }

    /** The cells, what is told of them and of the owners; a set of cells is a long, a bit for each. */
    private static final class Ground {
        static final int FIRST_SOIL = 5;

        final int[] soil = new int[MOST_CELLS];
        final int[] wet = new int[MOST_CELLS];
        final int[] kept = new int[MOST_CELLS];
        final int[] doors = new int[MOST_OWNERS];
        final int[] had = new int[MOST_OWNERS];
        // Reckoned anew with every change, so that looking one up is cheap: the searches do little else.
        final int[] prices = new int[MOST_OWNERS * MOST_CELLS];
        Book book = new Book();
        int wide;
        int high;
        int cells;
        int width;
        int limit;
        long all;
        long water;
        long firstColumn;
        long lastColumn;

        void leave() {
            wide = 0;
            high = 0;
            cells = 0;
            width = 0;
            limit = 0;
            all = 0;
            water = 0;
            firstColumn = 0;
            lastColumn = 0;
            Arrays.fill(doors, 0);
            Arrays.fill(had, 0);
        }

        void lay(int newWide, int newHigh) {
            leave();
            wide = newWide;
            high = newHigh;
            cells = newWide * newHigh;
            width = 1;
            limit = MOST_LIMIT;
            all = -1L >>> MOST_CELLS - cells;
            for (int y = 0; y < high; y++) {
                firstColumn |= 1L << y * wide;
            }
            lastColumn = firstColumn << wide - 1;
            Arrays.fill(soil, FIRST_SOIL);
            Arrays.fill(wet, 0);
            Arrays.fill(kept, NONE);
            reckonPrices(all);
        }

        boolean stands() {
            return cells > 0;
        }

        boolean isCell(int c) {
            return c >= 0 && c < cells;
        }

        /** All that is asked of an owner (a field, a sum, a HAD) is of a ground: without one there is none such. */
        boolean isOwner(int owner) {
            return stands() && owner >= 0 && owner < book.owners;
        }

        int corners() {
            return stands() ? (wide + 1) * (high + 1) : 0;
        }

        void change(int c, int newSoil, int newWet, boolean isWater) {
            soil[c] = newSoil;
            wet[c] = newWet;
            water = isWater ? water | 1L << c : water & ~(1L << c);
            reckonPrices(1L << c | beside(1L << c));
        }

        void moveDoor(int owner, int c) {
            doors[owner] = c;
            reckonPricesTo(owner, all);
        }

        private void reckonPrices(long set) {
            for (int owner = 0; owner < book.owners; owner++) {
                reckonPricesTo(owner, set);
            }
        }

        private void reckonPricesTo(int owner, long set) {
            for (int c = 0; c < cells; c++) {
                if ((set >>> c & 1) != 0) {
                    int nearWater = (beside(1L << c) & water) != 0 ? 1 : 0;
                    prices[owner * MOST_CELLS + c] = book.reckon(owner, soil[c], wet[c], steps(owner, c), nearWater);
                }
            }
        }

        int price(int owner, int c) {
            return prices[owner * MOST_CELLS + c];
        }

        boolean isWater(int c) {
            return (water >>> c & 1) != 0;
        }

        int keptCells() {
            int found = 0;
            for (int c = 0; c < cells; c++) {
                if (kept[c] != NONE) {
                    found++;
                }
            }
            return found;
        }

        int steps(int owner, int c) {
            if (wide <= 0) {
                return 0;
            }
            int door = doors[owner];
            return Math.abs(c % wide - door % wide) + Math.abs(c / wide - door / wide);
        }

        long beside(long set) {
            return (eastOf(set) | westOf(set) | set << wide | set >>> wide) & all;
        }

        private long eastOf(long set) {
            return (set & ~lastColumn) << 1;
        }

        private long westOf(long set) {
            return (set & ~firstColumn) >>> 1;
        }

        int sidesBetween(long one, long other) {
            return Long.bitCount(eastOf(one) & other) + Long.bitCount(westOf(one) & other)
                    + Long.bitCount(one << wide & other) + Long.bitCount(one >>> wide & other);
        }

        boolean hangsTogether(long set) {
            long notFirst = ~firstColumn;
            long notLast = ~lastColumn;
            long reached = set & -set;
            // Every round but the last reaches a cell more. All searches end up here: so beside() is written out.
            for (int i = 0; i < cells; i++) {
                long wider = (reached | (reached & notLast) << 1 | (reached & notFirst) >>> 1
                        | reached << wide | reached >>> wide) & set;
                if (wider == reached) {
                    break;
                }
                reached = wider;
            }
            return reached == set;
        }

        /** The cells of a set that are in no square of four of it. */
        long thinCells(long set) {
            long pairs = set & westOf(set);
            long squares = pairs & pairs >>> wide;
            long upper = squares | squares << 1;
            return set & ~(upper | upper << wide);
        }

        boolean isFieldLawful(long field) {
            return hangsTogether(field) && (width != 2 || thinCells(field) == 0);
        }

        static int least(long set) {
            return Long.bitCount((set & -set) - 1);
        }
    }

    /** Whose each cell is. */
    private static final class Drawing {
        static final int UNOWNED = 1;
        static final int NOT_KEPT = 2;
        static final int TORN = 3;
        static final int THIN = 4;

        final Ground ground;
        final int[] holder = new int[MOST_CELLS];
        final long[] fields = new long[MOST_OWNERS];
        int barAt;

        Drawing(Ground ground) {
            this.ground = ground;
        }

        void wipe() {
            Arrays.fill(holder, NONE);
            Arrays.fill(fields, 0L);
        }

        void give(int c, int owner) {
            int former = holder[c];
            if (former >= 0 && former < MOST_OWNERS) {
                fields[former] &= ~(1L << c);
            }
            if (owner >= 0 && owner < MOST_OWNERS) {
                fields[owner] |= 1L << c;
            }
            holder[c] = owner;
        }

        long owned() {
            long set = 0;
            for (int owner = 0; owner < MOST_OWNERS; owner++) {
                set |= fields[owner];
            }
            return set;
        }

        long free() {
            return ground.all & ~ground.water & ~owned();
        }

        /** What bars the drawing, 0 if nothing does; barAt says where. */
        int findBar() {
            long unowned = free();
            if (unowned != 0) {
                return barredBy(UNOWNED, Ground.least(unowned));
            }
            for (int c = 0; c < ground.cells; c++) {
                if (ground.kept[c] != NONE && ground.kept[c] != holder[c]) {
                    return barredBy(NOT_KEPT, c);
                }
            }
            for (int owner = 0; owner < MOST_OWNERS; owner++) {
                if (!ground.hangsTogether(fields[owner])) {
                    return barredBy(TORN, owner);
                }
            }
            long thin = ground.width == 2 ? thinOfAll() : 0;
            return thin != 0 ? barredBy(THIN, Ground.least(thin)) : barredBy(0, NOT_BARRED);
        }

        private int barredBy(int sort, int at) {
            barAt = at;
            return sort;
        }

        private long thinOfAll() {
            long thin = 0;
            for (int owner = 0; owner < MOST_OWNERS; owner++) {
                thin |= ground.thinCells(fields[owner]);
            }
            return thin;
        }

        void growFromDoors() {
            wipe();
            giveKept();
            giveDoors();
            boolean taken = true;
            // Every round but the last takes a cell.
            for (int round = 0; round <= ground.cells && taken; round++) {
                taken = false;
                for (int owner = 0; owner < ground.book.owners; owner++) {
                    taken |= takeOne(owner);
                }
            }
        }

        private void giveKept() {
            for (int c = 0; c < ground.cells; c++) {
                if (ground.kept[c] != NONE) {
                    give(c, ground.kept[c]);
                }
            }
        }

        private void giveDoors() {
            for (int owner = 0; owner < ground.book.owners; owner++) {
                int c = ground.doors[owner];
                if (!ground.isWater(c) && holder[c] == NONE) {
                    give(c, owner);
                }
            }
        }

        private boolean takeOne(int owner) {
            long near = ground.beside(fields[owner]) & free();
            int taken = NONE;
            int greatest = 0;
            for (int c = 0; c < ground.cells; c++) {
                if ((near >>> c & 1) != 0 && (taken == NONE || ground.price(owner, c) > greatest)) {
                    taken = c;
                    greatest = ground.price(owner, c);
                }
            }
            if (taken == NONE) {
                return false;
            }
            give(taken, owner);
            return true;
        }
    }

    /** What the drawing is worth to whom. */
    private static final class Accounts {
        final Ground ground;
        final Drawing drawing;

        Accounts(Ground ground, Drawing drawing) {
            this.ground = ground;
            this.drawing = drawing;
        }

        int tell(int what) {
            switch (what) {
                case 0: return totalOfAll();
                case 1: return shortOfAll();
                case 2: return bound();
                case 3: return bound() - totalOfAll();
                case 4: return envyPairs();
                case 5: return yesVotes();
                default: return borderLength();
            }
        }

        int sumOf(int owner) {
            return fieldSum(owner, drawing.fields[owner]);
        }

        private int fieldSum(int owner, long field) {
            int sum = 0;
            for (int c = 0; c < ground.cells; c++) {
                if ((field >>> c & 1) != 0) {
                    sum += ground.price(owner, c);
                }
            }
            return sum;
        }

        int shortBy(int owner, int sum) {
            int lack = ground.had[owner] - sum;
            return lack > 0 ? lack : 0;
        }

        private int totalOfAll() {
            int total = 0;
            for (int owner = 0; owner < ground.book.owners; owner++) {
                total += sumOf(owner);
            }
            return total;
        }

        private int shortOfAll() {
            int total = 0;
            for (int owner = 0; owner < ground.book.owners; owner++) {
                total += shortBy(owner, sumOf(owner));
            }
            return total;
        }

        private int bound() {
            int total = 0;
            for (int c = 0; c < ground.cells; c++) {
                if (!ground.isWater(c)) {
                    int keeper = ground.kept[c];
                    total += keeper != NONE ? ground.price(keeper, c) : greatestPrice(c);
                }
            }
            return total;
        }

        private int greatestPrice(int c) {
            int greatest = ground.price(0, c);
            for (int owner = 1; owner < ground.book.owners; owner++) {
                greatest = Math.max(greatest, ground.price(owner, c));
            }
            return greatest;
        }

        boolean feelsEnvy(int owner, int other) {
            long field = drawing.fields[other];
            return field != 0 && fieldSum(owner, field) > sumOf(owner);
        }

        private int envyPairs() {
            int pairs = 0;
            for (int owner = 0; owner < ground.book.owners; owner++) {
                for (int other = 0; other < ground.book.owners; other++) {
                    if (owner != other && feelsEnvy(owner, other)) {
                        pairs++;
                    }
                }
            }
            return pairs;
        }

        boolean saysYes(int owner) {
            for (int c = 0; c < ground.cells; c++) {
                if (drawing.holder[c] == owner && ground.steps(owner, c) > ground.limit) {
                    return false;
                }
            }
            return sumOf(owner) >= ground.had[owner];
        }

        private int yesVotes() {
            int yes = 0;
            for (int owner = 0; owner < ground.book.owners; owner++) {
                if (saysYes(owner)) {
                    yes++;
                }
            }
            return yes;
        }

        private int borderLength() {
            // Each side between two owners is met from both, one to no one's ground from one alone.
            long owned = drawing.owned();
            long unowned = ground.all & ~owned;
            int met = 0;
            int open = 0;
            for (int owner = 0; owner < ground.book.owners; owner++) {
                long field = drawing.fields[owner];
                met += ground.sidesBetween(field, owned & ~field);
                open += ground.sidesBetween(field, unowned);
            }
            return met / 2 + open;
        }
    }

    /** Betters a lawful drawing move by move. */
    private static final class Mover {
        final Ground ground;
        final Drawing drawing;
        final Accounts accounts;
        final int[] sums = new int[MOST_OWNERS];
        int nowShort;
        int nowTotal;

        // The best move so far: a cell, and the owner it becomes or the other cell.
        int bestShort;
        int bestTotal;
        int bestCell;
        int bestOwner;
        int bestOther;

        Mover(Ground ground, Drawing drawing, Accounts accounts) {
            this.ground = ground;
            this.drawing = drawing;
            this.accounts = accounts;
        }

        int run(int moves) {
            for (int made = 0; made < moves; made++) {
                if (!seek()) {
                    return made;
                }
                make();
            }
            return moves;
        }

        private void make() {
            int former = drawing.holder[bestCell];
            drawing.give(bestCell, bestOwner);
            if (bestOther != NONE) {
                drawing.give(bestOther, former);
            }
        }

        /** Whether a move betters the drawing; the best one is kept. */
        boolean seek() {
            nowShort = 0;
            nowTotal = 0;
            for (int owner = 0; owner < ground.book.owners; owner++) {
                sums[owner] = accounts.sumOf(owner);
                nowShort += accounts.shortBy(owner, sums[owner]);
                nowTotal += sums[owner];
            }
            bestShort = nowShort;
            bestTotal = nowTotal;
            bestCell = NONE;
            // In the order that the document prefers: a later move must be truly better.
            for (int c = 0; c < ground.cells; c++) {
                if (mayMove(c)) {
                    tryOwners(c);
                }
            }
            for (int c = 0; c < ground.cells; c++) {
                if (mayMove(c)) {
                    tryCells(c);
                }
            }
            return bestCell != NONE;
        }

        private boolean mayMove(int c) {
            return !ground.isWater(c) && ground.kept[c] == NONE && drawing.holder[c] != NONE;
        }

        private void tryOwners(int c) {
            int from = drawing.holder[c];
            int lost = ground.price(from, c);
            for (int to = 0; to < ground.book.owners; to++) {
                if (to != from) {
                    int won = ground.price(to, c);
                    if (improves(from, -lost, to, won) && isLawful(from, to, 1L << c)) {
                        hold(from, -lost, to, won);
                        bestCell = c;
                        bestOwner = to;
                        bestOther = NONE;
                    }
                }
            }
        }

        private void tryCells(int c) {
            int from = drawing.holder[c];
            int lost = ground.price(from, c);
            for (int other = c + 1; other < ground.cells; other++) {
                int to = drawing.holder[other];
                if (to != from && mayMove(other)) {
                    int change = ground.price(from, other) - lost;
                    int otherChange = ground.price(to, c) - ground.price(to, other);
                    if (improves(from, change, to, otherChange) && isLawful(from, to, 1L << c | 1L << other)) {
                        hold(from, change, to, otherChange);
                        bestCell = c;
                        bestOwner = to;
                        bestOther = other;
                    }
                }
            }
        }

        private int shortBehind(int one, int change, int other, int otherChange) {
            return nowShort - accounts.shortBy(one, sums[one]) - accounts.shortBy(other, sums[other])
                    + accounts.shortBy(one, sums[one] + change) + accounts.shortBy(other, sums[other] + otherChange);
        }

        private boolean improves(int one, int change, int other, int otherChange) {
            int behind = shortBehind(one, change, other, otherChange);
            return behind < bestShort || behind == bestShort && nowTotal + change + otherChange > bestTotal;
        }

        private void hold(int one, int change, int other, int otherChange) {
            bestShort = shortBehind(one, change, other, otherChange);
            bestTotal = nowTotal + change + otherChange;
        }

        /** Only the two fields change, so only they can be barred. */
        private boolean isLawful(int one, int other, long changed) {
            return ground.isFieldLawful(drawing.fields[one] ^ changed)
                    && ground.isFieldLawful(drawing.fields[other] ^ changed);
        }
    }

    /** Goes through the drawings of few cells, in the order of the lesser owner of the first cell. */
    private static final class Finder {
        static final int FEW_CELLS = 9;
        static final int FEW_OWNERS = 3;
        static final int PLACES = FEW_CELLS + 1;

        final Ground ground;
        final Drawing drawing;
        final int[] cells = new int[FEW_CELLS];
        final int[] picks = new int[FEW_CELLS];
        final int[] found = new int[FEW_CELLS];
        final long[] fields = new long[FEW_OWNERS];
        // What a field is worth to an owner, at the owner times FEW_OWNERS and the field.
        final int[] worths = new int[FEW_OWNERS * FEW_OWNERS];
        // What an owner can still win at most from a place on, and what all can together.
        final int[] hopes = new int[FEW_OWNERS * PLACES];
        final int[] hopesOfAll = new int[PLACES];
        int size;
        int owners;
        boolean calm;
        boolean isFound;
        int bestEnvy;
        int bestShort;
        int bestTotal;

        Finder(Ground ground, Drawing drawing) {
            this.ground = ground;
            this.drawing = drawing;
        }

        boolean isFew() {
            return Long.bitCount(ground.all & ~ground.water) <= FEW_CELLS && ground.book.owners <= FEW_OWNERS;
        }

        boolean search(boolean isCalm) {
            calm = isCalm;
            isFound = false;
            owners = Math.min(ground.book.owners, FEW_OWNERS);
            Arrays.fill(fields, 0L);
            Arrays.fill(worths, 0);
            if (!gatherCells()) {
                return false;
            }
            gatherHopes();
            descend(0);
            if (isFound) {
                drawing.wipe();
                for (int i = 0; i < size; i++) {
                    drawing.give(cells[i], found[i]);
                }
            }
            return isFound;
        }

        /** False if a water cell is kept: it stays no one's, and so bars every drawing. */
        private boolean gatherCells() {
            size = 0;
            for (int c = 0; c < ground.cells; c++) {
                if (!ground.isWater(c)) {
                    if (size < FEW_CELLS) {
                        cells[size] = c;
                        size++;
                    }
                } else if (ground.kept[c] != NONE) {
                    return false;
                }
            }
            return true;
        }

        private void gatherHopes() {
            Arrays.fill(hopes, 0);
            Arrays.fill(hopesOfAll, 0);
            for (int at = size - 1; at >= 0; at--) {
                int greatest = NO_NUMBER;
                for (int owner = 0; owner < owners; owner++) {
                    int price = mayHave(owner, cells[at]) ? ground.price(owner, cells[at]) : NO_NUMBER;
                    hopes[owner * PLACES + at] = hopes[owner * PLACES + at + 1] + Math.max(0, price);
                    greatest = Math.max(greatest, price);
                }
                hopesOfAll[at] = hopesOfAll[at + 1] + greatest;
            }
        }

        private boolean mayHave(int owner, int c) {
            return ground.kept[c] == NONE || ground.kept[c] == owner;
        }

        private void descend(int at) {
            // Without envy nothing is calmer: then only what may be better is worth looking at.
            if (isFound && bestEnvy == 0 && !isHopeful(at)) {
                return;
            }
            if (at >= size || at >= FEW_CELLS) {
                weigh();
                return;
            }
            int c = cells[at];
            for (int owner = 0; owner < owners; owner++) {
                if (mayHave(owner, c)) {
                    picks[at] = owner;
                    turn(c, owner, 1);
                    descend(at + 1);
                    turn(c, owner, -1);
                }
            }
        }

        private void turn(int c, int owner, int sign) {
            fields[owner] ^= 1L << c;
            for (int judge = 0; judge < owners; judge++) {
                worths[judge * FEW_OWNERS + owner] += sign * ground.price(judge, c);
            }
        }

        /** Whether a drawing that goes on from a place may be better than the best so far. */
        private boolean isHopeful(int at) {
            int total = hopesOfAll[at];
            int shortage = 0;
            for (int owner = 0; owner < owners; owner++) {
                int sum = worths[owner * FEW_OWNERS + owner];
                int lack = ground.had[owner] - sum - hopes[owner * PLACES + at];
                shortage += lack > 0 ? lack : 0;
                total += sum;
            }
            return shortage < bestShort || shortage == bestShort && total > bestTotal;
        }

        private void weigh() {
            int envy = calm ? envyPairs() : 0;
            int shortage = 0;
            int total = 0;
            for (int owner = 0; owner < owners; owner++) {
                int sum = worths[owner * FEW_OWNERS + owner];
                int lack = ground.had[owner] - sum;
                shortage += lack > 0 ? lack : 0;
                total += sum;
            }
            if (isFound && !isBest(envy, shortage, total) || !areLawful()) {
                return;
            }
            isFound = true;
            bestEnvy = envy;
            bestShort = shortage;
            bestTotal = total;
            System.arraycopy(picks, 0, found, 0, FEW_CELLS);
        }

        private boolean isBest(int envy, int shortage, int total) {
            if (envy != bestEnvy) {
                return envy < bestEnvy;
            }
            return shortage < bestShort || shortage == bestShort && total > bestTotal;
        }

        private boolean areLawful() {
            for (int owner = 0; owner < owners; owner++) {
                if (!ground.isFieldLawful(fields[owner])) {
                    return false;
                }
            }
            return true;
        }

        private int envyPairs() {
            int pairs = 0;
            for (int owner = 0; owner < owners; owner++) {
                int own = worths[owner * FEW_OWNERS + owner];
                for (int other = 0; other < owners; other++) {
                    if (fields[other] != 0 && worths[owner * FEW_OWNERS + other] > own) {
                        pairs++;
                    }
                }
            }
            return pairs;
        }
    }

    /** Walks a field's outer border with the field to the right hand. */
    private static final class Walker {
        // An 8 times 8 ground has so many sides, and none is walked twice.
        static final int MOST_SIDES = 2 * MOST_SIDE * (MOST_SIDE + 1);

        // Ways are east, south, west, north; ahead to the left of way k lies the cell at k, to the right at k + 1.
        private static final int[] WAY_X = {1, 0, -1, 0};
        private static final int[] WAY_Y = {0, 1, 0, -1};
        private static final int[] CELL_X = {0, 0, -1, -1};
        private static final int[] CELL_Y = {-1, 0, 0, -1};

        final Ground ground;
        final int[] turnX = new int[MOST_SIDES];
        final int[] turnY = new int[MOST_SIDES];
        int turns;
        long field;

        Walker(Ground ground) {
            this.ground = ground;
        }

        /** False if the field has no cell or does not hang together. */
        boolean walk(long newField) {
            turns = 0;
            field = newField;
            int wide = ground.wide;
            if (field == 0 || wide <= 0 || !ground.hangsTogether(field)) {
                return false;
            }
            int startX = Ground.least(field) % wide;
            int startY = Ground.least(field) / wide;
            int x = startX;
            int y = startY;
            int way = 0;
            mark(x, y);
            for (int i = 0; i < MOST_SIDES; i++) {
                x += WAY_X[way];
                y += WAY_Y[way];
                // Nothing of the field lies above or left of the start, so the walk meets it once more only.
                if (x == startX && y == startY) {
                    break;
                }
                int turned = turnAt(x, y, way);
                if (turned != way) {
                    mark(x, y);
                    way = turned;
                }
            }
            return true;
        }

        private int turnAt(int x, int y, int way) {
            int right = way + 1 & 3;
            // The right hand's cell is asked first: so the border stays with its cell where two touch at a corner.
            if (!isInField(x + CELL_X[right], y + CELL_Y[right])) {
                return right;
            }
            return isInField(x + CELL_X[way], y + CELL_Y[way]) ? way + 3 & 3 : way;
        }

        private boolean isInField(int x, int y) {
            return x >= 0 && x < ground.wide && y >= 0 && y < ground.high
                    && (field >>> y * ground.wide + x & 1) != 0;
        }

        private void mark(int x, int y) {
            if (turns < MOST_SIDES) {
                turnX[turns] = x;
                turnY[turns] = y;
                turns++;
            }
        }

        int numberOf(int i) {
            return i >= 0 && i < turns ? (ground.wide + 1) * turnY[i] + turnX[i] : NONE;
        }

        /** The area within the walk, as the sum of what lies left of its upright sides. */
        int area() {
            int found = 0;
            for (int i = 0; i < turns; i++) {
                int next = i + 1 < turns ? i + 1 : 0;
                found += turnX[i] * (turnY[next] - turnY[i]);
            }
            return found;
        }
    }

    /** Splits a field between heirs. */
    private static final class Splitter {
        static final int MOST_SPLIT = 12;

        final Ground ground;
        final int[] values = new int[MOST_SPLIT];
        // The values of all cells ahead of one together.
        final int[] ahead = new int[MOST_SPLIT];
        long field;
        int size;
        int bestBorder;
        int bestCells;
        int bestBits;

        Splitter(Ground ground) {
            this.ground = ground;
        }

        /** False if the field is not one to be split. */
        boolean take(int owner, long newField) {
            field = newField;
            size = 0;
            int cells = Long.bitCount(field);
            if (cells < 2 || cells > MOST_SPLIT || !ground.hangsTogether(field)) {
                return false;
            }
            int sum = 0;
            for (int c = 0; c < ground.cells && size < MOST_SPLIT; c++) {
                if ((field >>> c & 1) != 0) {
                    values[size] = ground.price(owner, c);
                    ahead[size] = sum;
                    sum += values[size];
                    size++;
                }
            }
            return true;
        }

        boolean search(int low, int high) {
            bestBits = 0;
            int whole = (1 << size) - 1;
            long part = 0;
            int sum = 0;
            for (int bits = 1; bits < whole; bits++) {
                // The next number sets one bit and clears all below it, in the field's own bits too.
                int risen = Math.min(Ground.least(bits), MOST_SPLIT - 1);
                sum += values[risen] - ahead[risen];
                part = part - field & field;
                if (sum >= low && sum <= high) {
                    weigh(bits, part);
                }
            }
            return bestBits != 0;
        }

        private void weigh(int bits, long part) {
            long rest = field & ~part;
            int border = ground.sidesBetween(part, rest);
            int cells = Integer.bitCount(bits);
            boolean isLess = bestBits == 0 || border < bestBorder || border == bestBorder && cells < bestCells;
            if (isLess && ground.hangsTogether(part) && ground.hangsTogether(rest)) {
                bestBits = bits;
                bestBorder = border;
                bestCells = cells;
            }
        }
    }

    /** Finds the least length of borders that joins the corners told. */
    private static final class Ditcher {
        static final int MOST_TOLD = 4;
        static final int MOST_CORNERS = (MOST_SIDE + 1) * (MOST_SIDE + 1);
        static final int GROUPS = 1 << MOST_TOLD - 1;
        // Above all sides that there are, and small enough to be added to itself.
        static final int UNREACHED = 1000;
        static final int EAST = 1;
        static final int SOUTH = 2;

        final Ground ground;
        final Drawing drawing;
        final int[] corners = new int[MOST_TOLD];
        // From each corner, whether a border goes east and south.
        final int[] ways = new int[MOST_CORNERS];
        // For a group of corners told (as bits) and a corner: the least length that joins them.
        final int[] lengths = new int[GROUPS * MOST_CORNERS];
        int told;

        Ditcher(Ground ground, Drawing drawing) {
            this.ground = ground;
            this.drawing = drawing;
        }

        boolean isFull() {
            return told >= MOST_TOLD;
        }

        boolean isTold(int corner) {
            for (int i = 0; i < told && i < MOST_TOLD; i++) {
                if (corners[i] == corner) {
                    return true;
                }
            }
            return false;
        }

        void tell(int corner) {
            if (told < MOST_TOLD) {
                corners[told] = corner;
                told++;
            }
        }

        int leastLength() {
            if (told < 2 || told > MOST_TOLD) {
                return 0;
            }
            findWays();
            // The last corner is where the groups of all others are looked up, so it needs no bit.
            int last = told - 1;
            int whole = (1 << last) - 1;
            for (int group = 1; group <= whole; group++) {
                joinParts(group);
                settle(group * MOST_CORNERS);
            }
            int length = lengths[whole * MOST_CORNERS + corners[last]];
            return length < UNREACHED ? length : NONE;
        }

        private void findWays() {
            int wide = ground.wide;
            for (int y = 0; y <= ground.high; y++) {
                for (int x = 0; x <= wide; x++) {
                    int east = isBorder(x, y - 1, x, y) ? EAST : 0;
                    int south = isBorder(x - 1, y, x, y) ? SOUTH : 0;
                    ways[y * (wide + 1) + x] = east | south;
                }
            }
        }

        private boolean isBorder(int x, int y, int otherX, int otherY) {
            if (x < 0 || y < 0 || otherX >= ground.wide || otherY >= ground.high) {
                return false;
            }
            return drawing.holder[y * ground.wide + x] != drawing.holder[otherY * ground.wide + otherX];
        }

        private void joinParts(int group) {
            int row = group * MOST_CORNERS;
            for (int c = 0; c < MOST_CORNERS; c++) {
                lengths[row + c] = UNREACHED;
            }
            for (int i = 0; i < told - 1 && i < MOST_TOLD; i++) {
                if (group == 1 << i) {
                    lengths[row + corners[i]] = 0;
                }
            }
            for (int part = 1; part < group; part++) {
                if ((part & ~group) == 0) {
                    joinTwo(row, part * MOST_CORNERS, (group ^ part) * MOST_CORNERS);
                }
            }
        }

        private void joinTwo(int row, int one, int other) {
            int end = ground.corners();
            for (int c = 0; c < end; c++) {
                lengths[row + c] = Math.min(lengths[row + c], lengths[one + c] + lengths[other + c]);
            }
        }

        private void settle(int row) {
            int end = ground.corners();
            boolean changed = true;
            // A round settles at least one more corner; going there and back by turns settles most at once.
            for (int round = 0; round <= end && changed; round++) {
                changed = false;
                for (int i = 0; i < end; i++) {
                    int c = (round & 1) == 0 ? i : end - 1 - i;
                    if ((ways[c] & EAST) != 0) {
                        changed |= level(row + c, row + c + 1);
                    }
                    if ((ways[c] & SOUTH) != 0) {
                        changed |= level(row + c, row + c + ground.wide + 1);
                    }
                }
            }
        }

        /** Two ends of one side differ by its length at most; true if one had to be lessened. */
        private boolean level(int one, int other) {
            if (lengths[one] > lengths[other] + 1) {
                lengths[one] = lengths[other] + 1;
                return true;
            }
            if (lengths[other] > lengths[one] + 1) {
                lengths[other] = lengths[one] + 1;
                return true;
            }
            return false;
        }
    }
}
