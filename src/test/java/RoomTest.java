import com.sun.management.ThreadMXBean;
import java.lang.management.ManagementFactory;

/** All calls of a run live in one room: a call makes nothing, and an object little. */
final class RoomTest {
    private static final Tally TALLY = new Tally("RoomTest");
    private static final ThreadMXBean BEAN = (ThreadMXBean) ManagementFactory.getThreadMXBean();
    private static final String TEXT =
            "owner a worth soil - far; owner b worth 2 * least(soil, wet + 3); owner c worth 3 + water";
    private static int sink;

    private RoomTest() {
    }

    public static void main(String[] args) {
        // The first round loads classes, which makes objects of the machine's own.
        for (int i = 0; i < 3; i++) {
            WholeFields warm = made();
            play(warm);
        }
        long before = BEAN.getCurrentThreadAllocatedBytes();
        new WholeFields();
        long bytes = BEAN.getCurrentThreadAllocatedBytes() - before;
        TALLY.due("an object takes " + bytes + " bytes, below 20000", bytes < 20000, true);
        WholeFields x = made();
        before = BEAN.getCurrentThreadAllocatedBytes();
        play(x);
        bytes = BEAN.getCurrentThreadAllocatedBytes() - before;
        TALLY.due("the calls make " + bytes + " bytes, below 200", bytes < 200, true);
        TALLY.end();
    }

    private static WholeFields made() {
        WholeFields x = new WholeFields();
        Texts.feed(x, TEXT);
        return x;
    }

    private static void play(WholeFields x) {
        TALLY.due("book", x.book(TEXT.length()), 3);
        sink += x.ground(3, 3);
        x.cell(4, 9, 2, true);
        x.door(1, 8);
        x.door(2, 2);
        x.had(1, 30);
        sink += x.grow() + x.bars() + x.can() + x.better(20) + x.best(true) + x.best(false);
        for (int what = 0; what <= 6; what++) {
            sink += x.total(what);
        }
        for (int o = 0; o < 3; o++) {
            sink += x.stakes(o) + x.within(o) + x.split(o, 0, 20) + x.votes(o) + x.sum(o) + x.envies(o, (o + 1) % 3);
            sink += x.stakes(o) > 0 ? x.stake(o, 0) : 0;
        }
        sink += x.corner(5) + x.corner(10) + x.corner(6) + x.corner(9) + x.ditches() + x.clear();
        sink += x.ground(8, 8) + x.grow() + x.better(100) + x.count(1);
        x.feed(0, 0, 0, 0, 0);
        sink += x.book(20) + x.fault() + x.where();
    }
}
