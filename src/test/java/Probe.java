import java.util.ArrayList;
import java.util.List;
import java.util.NoSuchElementException;

/** Asks an object all that can be asked, first what leaves it alone, then what changes it. */
final class Probe {
    private final WholeFields x;
    private final List<String> calls;
    private final List<Long> answers = new ArrayList<>();

    private Probe(WholeFields x, List<String> calls) {
        this.x = x;
        this.calls = calls;
    }

    /** The calls are told in the list given; fit for grounds of some twelve cells, else there are too many. */
    static List<Long> answers(WholeFields x, List<String> calls) {
        Probe probe = new Probe(x, calls);
        probe.askQuietly();
        probe.askOwners();
        probe.askGround();
        probe.change();
        probe.readTape();
        return probe.answers;
    }

    private void add(String call, long answer) {
        calls.add(call);
        answers.add(answer);
    }

    private void askQuietly() {
        add("fault()", x.fault());
        add("barred()", x.barred());
        add("part()", x.part());
        for (int what = 0; what <= 8; what++) {
            add("count(" + what + ")", x.count(what));
        }
        addDrawing("");
        for (int o = 0; o <= x.count(0); o++) {
            for (int c = 0; c <= x.count(1); c++) {
                add("value(" + o + ", " + c + ")", x.value(o, c));
            }
            add("sum(" + o + ")", x.sum(o));
        }
    }

    private void addDrawing(String behind) {
        for (int c = 0; c <= x.count(1); c++) {
            add("whose(" + c + ")" + behind, x.whose(c));
        }
    }

    private void askOwners() {
        for (int o = 0; o < x.count(0); o++) {
            add("votes(" + o + ")", x.votes(o));
            add("envies(" + o + ", 0)", x.envies(o, 0));
            add("within(" + o + ")", x.within(o));
            int stakes = x.stakes(o);
            add("stakes(" + o + ")", stakes);
            for (int i = 0; i <= stakes; i++) {
                add("stake(" + o + ", " + i + ")", stakeOrNone(o, i));
            }
        }
    }

    private long stakeOrNone(int owner, int i) {
        try {
            return x.stake(owner, i);
        } catch (NoSuchElementException e) {
            return -99;
        }
    }

    private void askGround() {
        for (int what = 0; what <= 6; what++) {
            add("total(" + what + ")", x.total(what));
        }
        add("can()", x.can());
        add("ditches()", x.ditches());
        add("bars()", x.bars());
        add("barred() behind bars()", x.barred());
    }

    private void change() {
        for (int o = 0; o < x.count(0); o++) {
            add("split(" + o + ", 1, 9)", x.split(o, 1, 9));
            add("part() behind split()", x.part());
        }
        add("better(100)", x.better(100));
        addDrawing(" behind better()");
        add("grow()", x.grow());
        addDrawing(" behind grow()");
        add("best(true)", x.best(true));
        addDrawing(" behind best()");
        add("clear()", x.clear());
    }

    private void readTape() {
        add("book(count(8))", x.book(x.count(8)));
        add("fault() behind book()", x.fault());
        add("where() behind book()", x.where());
        add("ground(1, 1)", x.ground(1, 1));
        add("value(0, 0) behind book()", x.value(0, 0));
        add("value(1, 0) behind book()", x.value(1, 0));
    }
}
