import java.lang.reflect.InvocationTargetException;
import java.lang.reflect.Method;
import java.util.ArrayList;
import java.util.Arrays;
import java.util.Comparator;
import java.util.List;
import java.util.NoSuchElementException;
import java.util.function.Predicate;
import java.util.function.ToLongFunction;

/** What the tests by hand have in common: villages from texts and rows, and answers held against those due. */
abstract class Checks {
    static final int NO_NUMBER = -2147483648;
    static final int HIGHEST = 2147483647;
    static final String ONE = "owner a worth soil";
    static final String TWO = "owner a worth soil; owner b worth soil";
    static final String THREE = "owner a worth 1; owner b worth 1; owner c worth 1";
    static final String SIX = THREE + "; owner d worth 1; owner e worth 1; owner f worth 1";
    static final String SAMPLE = "owner a worth soil - far; owner b worth 2 * wet + water";
    static final String WAITING = "owner q worth 77 * soil;owner rr worth 1";

    private static Tally tally;
    private static String label = "";

    static void begin(String name) {
        tally = new Tally(name);
    }

    static void end() {
        tally.end();
    }

    static void about(String newLabel) {
        label = newLabel;
    }

    /** Plays every method of a class that bears a Sentence, in the order of their names. */
    static void playSentences(Class<? extends Checks> tests) {
        begin(tests.getSimpleName());
        Method[] methods = tests.getDeclaredMethods();
        Arrays.sort(methods, Comparator.comparing(Method::getName));
        for (Method m : methods) {
            Sentence s = m.getAnnotation(Sentence.class);
            if (s != null) {
                about(s.of() + " \"" + s.says() + "\", " + m.getName());
                play(m);
            }
        }
        end();
    }

    private static void play(Method m) {
        try {
            m.setAccessible(true);
            m.invoke(null);
        } catch (InvocationTargetException e) {
            due("a test that throws " + e.getCause(), false, true);
        } catch (IllegalAccessException e) {
            due("a test that can't be called", false, true);
        }
    }

    static void due(String call, long got, long want) {
        tally.due(label + ": " + call, got, want);
    }

    static void due(String call, boolean got, boolean want) {
        tally.due(label + ": " + call, got, want);
    }

    /** A refused call, and what trouble() answers behind it. */
    static void refused(WholeFields x, String call, long got, int trouble) {
        due(call, got, -1);
        due("trouble() behind " + call, x.trouble(), trouble);
    }

    static void refusedNumber(WholeFields x, String call, long got, int trouble) {
        due(call, got, NO_NUMBER);
        due("trouble() behind " + call, x.trouble(), trouble);
    }

    static void refused(WholeFields x, String call, boolean got, int trouble) {
        due(call, got, false);
        due("trouble() behind " + call, x.trouble(), trouble);
    }

    static void taken(WholeFields x, String call, boolean got) {
        due(call, got, true);
        due("trouble() behind " + call, x.trouble(), 0);
    }

    /** In each state: what a refused call answers, trouble() and where() behind it, and all else as without it. */
    static void refuses(Maker[] states, String call, ToLongFunction<WholeFields> made, long answer, int trouble) {
        for (Maker state : states) {
            WholeFields x = state.make();
            String there = call + " in the state " + state;
            due(there, made.applyAsLong(x), answer);
            due("trouble() behind " + there, x.trouble(), trouble);
            due("where() behind " + there, x.where(), -1);
            dueAlike("behind " + there, x, state.make());
        }
    }

    static void refusesNone(Maker[] states, String call, ToLongFunction<WholeFields> made, int trouble) {
        refuses(states, call, made, -1, trouble);
    }

    static void refusesNumber(Maker[] states, String call, ToLongFunction<WholeFields> made, int trouble) {
        refuses(states, call, made, NO_NUMBER, trouble);
    }

    static void refusesFalse(Maker[] states, String call, Predicate<WholeFields> made, int trouble) {
        refuses(states, call, x -> made.test(x) ? 1 : 0, 0, trouble);
    }

    /** A call of which no number is told: what it answers, and that trouble(), where() and all else stay. */
    static void quiet(Maker[] states, String call, ToLongFunction<WholeFields> made, long answer) {
        for (Maker state : states) {
            WholeFields x = state.make();
            WholeFields y = state.make();
            String there = call + " in the state " + state;
            due(there, made.applyAsLong(x), answer);
            due("trouble() behind " + there, x.trouble(), y.trouble());
            due("where() behind " + there, x.where(), y.where());
            dueAlike("behind " + there, x, y);
        }
    }

    /** All that can be asked of two objects is alike; asking uses them up. */
    static void dueAlike(String when, WholeFields x, WholeFields y) {
        List<String> calls = new ArrayList<>();
        List<Long> got = Probe.answers(x, calls);
        List<Long> want = Probe.answers(y, new ArrayList<>());
        due("number of answers " + when, got.size(), want.size());
        for (int i = 0; i < Math.min(got.size(), want.size()); i++) {
            due(calls.get(i) + " " + when, got.get(i), want.get(i));
        }
    }

    static WholeFields with(String text) {
        WholeFields x = new WholeFields();
        due("book of '" + text + "'", Texts.book(x, text) > 0, true);
        return x;
    }

    static WholeFields with(String text, int wide, int high) {
        WholeFields x = with(text);
        due("ground(" + wide + ", " + high + ")", x.ground(wide, high), wide * high);
        return x;
    }

    /** Rows parted by blanks; a to f are owners, a dot is no one. */
    static WholeFields drawn(String text, String rows) {
        String[] parts = rows.split(" ");
        WholeFields x = with(text, parts[0].length(), parts.length);
        redraw(x, rows);
        return x;
    }

    static void redraw(WholeFields x, String rows) {
        String cells = rows.replace(" ", "");
        for (int c = 0; c < cells.length(); c++) {
            x.draw(c, cells.charAt(c) == '.' ? -1 : cells.charAt(c) - 'a');
        }
    }

    static void dueDrawing(WholeFields x, String call, String rows) {
        String cells = rows.replace(" ", "");
        for (int c = 0; c < cells.length(); c++) {
            due(call + ", then whose(" + c + ")", x.whose(c), cells.charAt(c) == '.' ? -2 : cells.charAt(c) - 'a');
        }
    }

    static boolean hasNoStake(WholeFields x, int owner, int i) {
        try {
            x.stake(owner, i);
            return false;
        } catch (NoSuchElementException e) {
            return true;
        }
    }

    static void dueStakes(WholeFields x, int owner, int... corners) {
        due("stakes(" + owner + ")", x.stakes(owner), corners.length);
        for (int i = 0; i < corners.length; i++) {
            int got = hasNoStake(x, owner, i) ? -99 : x.stake(owner, i);
            due("stake(" + owner + ", " + i + ")", got, corners[i]);
        }
        due("stake(" + owner + ", " + corners.length + ") throws", hasNoStake(x, owner, corners.length), true);
        due("stake(" + owner + ", -1) throws", hasNoStake(x, owner, -1), true);
    }

    /** Makes an object with things told, the same ones each time. */
    interface Maker {
        WholeFields make();
    }

    /** Objects with all kinds of things told; a text waits on each one's tape. */
    enum State implements Maker {
        NEW(() -> waiting(new WholeFields())),
        BOOKED(() -> waiting(with(SAMPLE))),
        LAWFUL(() -> waiting(village())),
        UNLAWFUL(() -> waiting(unlawful())),
        FAULTED(() -> waiting(faulted()));

        static final State[] ALL = values();
        static final State[] WITHOUT_GROUND = {NEW, BOOKED};
        static final State[] WITH_GROUND = {LAWFUL, UNLAWFUL, FAULTED};

        private final Maker maker;

        State(Maker maker) {
            this.maker = maker;
        }

        @Override
        public WholeFields make() {
            return maker.make();
        }

        private static WholeFields waiting(WholeFields x) {
            Texts.feed(x, WAITING);
            return x;
        }

        /** a: 0 and 3, worth 9 and 4, lacks 1; b: 1, 2 and 4, worth 0, 13 and 7; 5 is water and no one's. */
        private static WholeFields village() {
            WholeFields x = drawn(SAMPLE, "abb ab.");
            x.cell(0, 9, 1, false);
            x.cell(2, 4, 6, false);
            x.cell(4, 3, 3, false);
            x.cell(5, 7, 2, true);
            x.door(1, 4);
            x.keep(3, 0);
            x.had(0, 14);
            x.had(1, 3);
            x.set(1, 2);
            x.corner(1);
            x.corner(9);
            due("bars()", x.bars(), 0);
            due("split(1, 7, 7)", x.split(1, 7, 7), 1);
            return x;
        }

        private static WholeFields unlawful() {
            WholeFields x = village();
            x.draw(1, -1);
            due("bars()", x.bars(), 1);
            return x;
        }

        private static WholeFields faulted() {
            WholeFields x = village();
            due("book of a whole above 99", Texts.book(x, "owner a worth 100"), -1);
            return x;
        }
    }
}
