/** Counts answers, and tells those that are not as due. */
final class Tally {
    private final String name;
    private int right;
    private int wrong;

    Tally(String name) {
        this.name = name;
    }

    boolean due(String call, long got, long want) {
        if (got == want) {
            right++;
            return true;
        }
        wrong++;
        System.out.println(name + ": " + call + " answered " + got + ", due is " + want);
        return false;
    }

    boolean due(String call, boolean got, boolean want) {
        return due(call, got ? 1 : 0, want ? 1 : 0);
    }

    int wrongs() {
        return wrong;
    }

    void end() {
        System.out.println(name + ": " + right + " answers as due, " + wrong + " not");
        if (wrong != 0) {
            System.exit(1);
        }
    }
}
