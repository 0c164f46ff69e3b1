/** What tests tell often, in few words. */
final class Scene {
    static final int SHORTS = 0, INTS = 1, FLOATS = 2, DOUBLES = 3, TRUTHS = 4;
    static final int TARGET = 0, LEFT = 1, RIGHT = 2;
    static final int NULL = -11, INDEX = -12, CAST = -13, STORE = -14, SIZE = -15;
    static final int LEAST = Integer.MIN_VALUE;

    final StrideTurns x = new StrideTurns();

    /** A row with cells that are put one behind another. */
    Scene row(int r, int form, int n, int... cells) {
        taken(x.row(r, form, n));
        for (int i = 0; i < cells.length; i++) {
            taken(x.put(r, form, i, cells[i]));
        }
        return this;
    }

    Scene turns(int n) {
        taken(x.turns(n));
        return this;
    }

    void type(String name) {
        for (int i = 0; i < name.length(); i++) {
            x.type(name.charAt(i));
        }
    }

    int state(String name, int count) {
        type(name);
        return x.statement(count);
    }

    /** A statement; each reference as row, from, by, step. */
    int tell(String name, int count, int[] target, int[] left, int[] right) {
        int k = state(name, count);
        refer(k, TARGET, target);
        refer(k, LEFT, left);
        refer(k, RIGHT, right);
        return k;
    }

    void refer(int k, int which, int... told) {
        taken(x.refer(k, which, told[0]));
        taken(x.place(k, which, told[1], told[2], told[3]));
    }

    /** So that no test goes on with another loop than the one it means. */
    private static void taken(int answer) {
        if (answer < StrideTurns.NONE) {
            throw new IllegalArgumentException("what a test tells is refused: " + answer);
        }
    }

    static int[] at(int row, int from, int by, int step) {
        return new int[] {row, from, by, step};
    }

    static int[] constant(int value) {
        return new int[] {StrideTurns.NONE, value, 0, 0};
    }

    static long refused(int answer) {
        return Long.MIN_VALUE - answer;
    }

    /** Numbers beyond both ends of a range: the nearest ones and the farthest. */
    static int[] beyond(int least, int most) {
        return new int[] {Integer.MIN_VALUE, least - 1, most + 1, Integer.MAX_VALUE};
    }
}
