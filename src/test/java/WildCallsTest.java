import java.util.NoSuchElementException;
import java.util.Random;

/** Calls in any state with numbers from anywhere, from a fixed seed: none throws but stake(), and that as told. */
final class WildCallsTest {
    private static final Tally TALLY = new Tally("WildCallsTest");
    private static final int RUNS = 5000;
    private static final int CALLS = 512;
    private static final int[] ODD = {-2147483648, 2147483647, -1, 9, 12, 20, 21, 63, 64, 65, 80, 81, 100, 101, 500,
            1000000, 1000001};
    private static final String[] BOOKS = {
        "owner a worth soil",
        "owner a worth soil-far;owner b worth 2*wet+water*9;owner c worth 99*99*99*99-far",
        "owner a worth 1;owner b worth 2;owner c worth 3;owner d worth 4;owner e worth far;owner f worth 0-99*99*99"};

    private final Random lot;
    private final WholeFields x = new WholeFields();

    private WildCallsTest(long seed) {
        lot = new Random(seed * 0x9E3779B97F4A7C15L);
    }

    public static void main(String[] args) {
        for (int seed = 1; seed <= RUNS; seed++) {
            WildCallsTest run = new WildCallsTest(seed);
            int call = 0;
            String thrown = "nothing";
            try {
                for (; call < CALLS; call++) {
                    run.act();
                }
            } catch (RuntimeException e) {
                thrown = e.toString();
            }
            TALLY.due("run " + seed + ", call " + call + " throws " + thrown, call, CALLS);
        }
        TALLY.end();
    }

    private int any() {
        return lot.nextInt(5) == 0 ? ODD[lot.nextInt(ODD.length)] : lot.nextInt(9);
    }

    private void act() {
        int k = lot.nextInt(40);
        if (k < 10) {
            x.draw(any(), any());
        } else if (k < 20) {
            tell(k);
        } else if (k < 30) {
            ask(k);
        } else {
            find(k);
        }
    }

    private void tell(int k) {
        switch (k) {
            case 10: x.feed(any(), any(), lot.nextInt(), lot.nextInt(), lot.nextInt()); break;
            case 11: tellBook(); break;
            case 12: x.ground(lot.nextInt(3) == 0 ? any() : 0, any()); break;
            case 13: x.cell(any(), any(), any(), lot.nextInt(3) == 0); break;
            case 14: x.door(any(), any()); break;
            case 15: x.keep(any(), lot.nextBoolean() ? -1 : any()); break;
            case 16: x.had(any(), any()); break;
            case 17: x.set(any(), any()); break;
            case 18: x.corner(any()); break;
            default: x.clear(); break;
        }
    }

    private void tellBook() {
        if (lot.nextInt(5) > 0) {
            x.book(any());
            return;
        }
        x.book(x.count(8));
        Texts.book(x, BOOKS[lot.nextInt(BOOKS.length)]);
    }

    private void ask(int k) {
        switch (k) {
            case 20: x.value(any(), any()); break;
            case 21: x.whose(any()); break;
            case 22: x.sum(any()); break;
            case 23: x.total(any()); break;
            case 24: x.bars(); break;
            case 25: x.envies(any(), any()); break;
            case 26: x.votes(any()); break;
            case 27: x.count(any()); break;
            case 28: x.can(); break;
            default:
                TALLY.due("barred() and part() without a ground", x.count(1) > 0 || x.barred() == -1 && x.part() == -1,
                        true);
                TALLY.due("where() without a 4", x.where() != -1, x.trouble() == 4);
                break;
        }
    }

    private void find(int k) {
        switch (k) {
            case 30: case 31: x.grow(); break;
            case 32: x.better(any()); break;
            case 33: x.best(lot.nextBoolean()); break;
            case 34: x.stakes(any()); break;
            case 35: askStake(); break;
            case 36: x.within(any()); break;
            case 37: case 38: x.split(any(), any(), any()); break;
            default: x.ditches(); break;
        }
    }

    private void askStake() {
        int owner = any();
        int i = any();
        int stakes = x.stakes(owner);
        boolean isThere = true;
        try {
            x.stake(owner, i);
        } catch (NoSuchElementException e) {
            isThere = false;
        }
        TALLY.due("stake(" + owner + ", " + i + ") of " + stakes + " is there", isThere, i >= 0 && i < stakes);
    }
}
