/** What an item does (promises 4, 5, 29): operations, widths, casts; against Java's own arithmetic. */
public final class OperationsTest {
    private static final int MIN = Integer.MIN_VALUE, MAX = Integer.MAX_VALUE;

    public static void main(String[] args) {
        ints();
        over();
        floats();
        doubles();
        widths();
        wholeNumbersOfReals();
        casts();
        noNegativeZero();
        pickInWidth();
        constants();
        tinyDoubles();
        tinyFloats();
        greatRemainders();
        Check.end();
    }

    /** Row 0 of a form is the target, 1 left, 2 right; one turn of one item at cell 0 of each. */
    private static Scene scene(String name, int target, int left, int leftCell, int right, int rightCell) {
        Scene s = new Scene().row(0, target, 1).row(1, left, 1, leftCell).row(2, right, 1, rightCell).turns(1);
        s.tell(name, 1, Scene.at(0, 0, 0, 0), Scene.at(1, 0, 0, 0), Scene.at(2, 0, 0, 0));
        s.x.run();
        return s;
    }

    private static void due(String name, int[] forms, int left, int right, long due) {
        Scene s = scene(name, forms[0], forms[1], left, forms[2], right);
        String what = left + " " + name + " " + right + ", forms " + forms[0] + " " + forms[1] + " " + forms[2];
        Check.due(29, what, s.x.get(0, 0), due);
    }

    private static void dueInts(String name, int left, int right, int due) {
        due(name, new int[] {1, 1, 1}, left, right, due);
        due(name, new int[] {0, 1, 1}, left, right, (short) due);
    }

    private static void ints() {
        dueInts("add", MAX, 1, MIN);
        dueInts("add", -3, 5, 2);
        dueInts("sub", MIN, 1, MAX);
        dueInts("sub", 3, 5, -2);
        dueInts("mul", 65537, 65537, 131073);
        dueInts("mul", -7, 6, -42);
        dueInts("rem", -7, 3, -1);
        dueInts("rem", 7, -3, 1);
        dueInts("rem", 7, 0, 0);
        dueInts("rem", MIN, -1, 0);
        dueInts("rem", MIN, 10, -8);
        dueInts("max", -7, 3, 3);
        dueInts("max", 4, 4, 4);
        dueInts("max", MIN, MAX, MAX);
        dueInts("min", -7, 3, -7);
        dueInts("min", 9, 3, 3);
        dueInts("and", -2, 7, 6);
        dueInts("or", -16, 5, -11);
        dueInts("xor", -1, 5, -6);
        dueInts("copy", 123456, 5, 123456);
        dueInts("pick", 4, 3, 4);
        dueInts("pick", 3, 3, 0);
        dueInts("pick", 2, 3, 0);
        dueInts("pick", MAX, MIN, MAX);
        dueInts("sure", 4, -9, -5);
        dueInts("sure", MAX - 5, 5, MAX);
        dueInts("sure", MIN + 5, -5, MIN);
        dueInts("times", 46340, 46340, 2147395600);
        dueInts("times", MIN, 1, MIN);
        dueInts("times", -65536, 32768, MIN);
        due("mul", new int[] {0, 0, 0}, 300, 300, (short) 90000);
        due("mul", new int[] {1, 0, 0}, 300, 300, 90000);
        due("add", new int[] {1, 0, 0}, 32767, 32767, 65534);
        due("sure", new int[] {0, 0, 0}, 32767, 1, -32768);
    }

    private static void over() {
        int[][] sums = {{MAX, 1}, {1, MAX}, {MIN, -1}, {MIN, MIN}, {MAX, MAX}};
        int[][] products = {{65536, 65536}, {46341, 46341}, {MIN, -1}, {-1, MIN}, {MAX, 2}, {MIN, MIN}, {65536, 32768}};
        for (int[] p : sums) {
            Check.due(29, "sure " + p[0] + " " + p[1], scene("sure", 1, 1, p[0], 1, p[1]).x.faults(2), 1);
        }
        for (int[] p : products) {
            Check.due(29, "times " + p[0] + " " + p[1], scene("times", 1, 1, p[0], 1, p[1]).x.faults(2), 1);
        }
        Check.due(29, "an item that is over is not done", scene("sure", 1, 1, MAX, 1, MAX).x.count(6), 0);
        Check.due(29, "and not written", scene("sure", 1, 1, MAX, 1, MAX).x.writer(0, 0), -1);
        Check.due(29, "add is never over", scene("add", 1, 1, MAX, 1, MAX).x.faults(2), 0);
    }

    private static long bits(float value) {
        return Float.floatToIntBits(value);
    }

    private static long bits(double value) {
        return Double.doubleToLongBits(value);
    }

    private static void floats() {
        int[] forms = {2, 2, 2};
        due("add", forms, 8000, 900, bits(88.5f));       // 1000 and 112.5
        due("sub", forms, -8000, 900, bits(-88.5f));
        due("mul", forms, 400, -400, bits(-452f));       // 50 by -50
        due("mul", forms, 3, 5, bits(0.234375f));
        due("rem", forms, -60, 16, bits(-1.5f));         // -7.5 by 2
        due("rem", forms, 60, -16, bits(1.5f));
        due("rem", forms, 60, 0, 0);
        due("rem", forms, 5, 60, bits(0.625f));
        due("rem", forms, 80000, 24576, bits(784f));     // 10000 by 3072; not modulo 1024
        due("rem", forms, 80000, 160000, bits(10000f));
        due("max", forms, 80000, -1, bits(10000f));
        due("min", forms, 80000, -1, bits(-0.125f));
        due("copy", forms, 80001, -1, bits(10000.125f));
        due("pick", forms, 80001, 80000, bits(10000.125f));
        due("pick", forms, 80000, 80001, 0);
        // 16777216 and 1 is 16777216, as floats, and that modulo 1024 is 0
        due("add", forms, 134217728, 8, 0);
        due("add", new int[] {3, 2, 2}, 134217728, 8, bits(1d));
        due("add", new int[] {2, 2, 3}, 134217728, 8, bits(1f));
        due("add", new int[] {0, 2, 2}, 134217728, 8, 0);
    }

    private static void doubles() {
        int[] forms = {3, 3, 3};
        due("add", forms, 8000, 900, bits(88.5));
        due("sub", forms, -8000, 900, bits(-88.5));
        due("mul", forms, 400, -400, bits(-452d));
        due("mul", forms, MAX, MAX, bits((MAX / 8d) * (MAX / 8d) % 1024));
        due("rem", forms, -60, 16, bits(-1.5));
        due("rem", forms, -60, 0, 0);
        due("rem", forms, MAX, 7, bits(MAX / 8d % 0.875));
        due("max", forms, 80000, 80001, bits(10000.125));
        due("min", forms, 80000, 80001, bits(10000d));
        due("copy", forms, MIN, 0, bits(MIN / 8d));
        due("pick", forms, MIN, 0, 0);
        due("pick", forms, 0, MIN, 0);
        due("pick", forms, 1, MIN, bits(0.125));
    }

    private static void widths() {
        // by TARGET alone: ints would wrap, doubles do not
        due("mul", new int[] {1, 1, 1}, 65537, 65537, 131073);
        due("mul", new int[] {3, 1, 1}, 65537, 65537, bits(1d));
        due("mul", new int[] {3, 1, 0}, 65537, -3, bits(-(65537 * 3 % 1024) + 0d));
        due("mul", new int[] {2, 1, 1}, 16777217, 1, 0);
        due("add", new int[] {2, 1, 1}, 16777217, 1, bits(0f));
        due("add", new int[] {3, 1, 1}, 16777217, 1, bits(2d));
        // by one side alone
        due("add", new int[] {1, 3, 1}, 12, 1000, 1001);
        due("add", new int[] {1, 1, 3}, 1030, 12, 7);
        due("add", new int[] {1, 2, 1}, 8, 16777217, 0);
        due("add", new int[] {1, 3, 1}, 8, 16777217, 2);
        due("rem", new int[] {1, 1, 2}, 7, 20, 2);
        due("max", new int[] {1, 1, 2}, MAX, 0, MAX);
        due("max", new int[] {1, 1, 2}, MAX - 1, 0, MAX);
        due("max", new int[] {1, 1, 3}, MAX - 1, 0, MAX - 1);
        due("max", new int[] {1, 1, 1}, MAX - 1, 0, MAX - 1);
        due("copy", new int[] {1, 1, 2}, MAX - 1, 0, MAX - 1);
    }

    private static void wholeNumbersOfReals() {
        due("and", new int[] {1, 2, 3}, -20, 63, -2 & 7);
        due("or", new int[] {2, 2, 1}, 31, 4, bits(7f));
        due("xor", new int[] {3, 3, 3}, -9, 17, bits((double) (-1 ^ 2)));
        due("sure", new int[] {3, 2, 3}, 31, 31, bits(6d));
        due("times", new int[] {2, 3, 2}, -31, 47, bits(-15f));
        due("times", new int[] {3, 3, 3}, 2, 47, 0);
        Scene s = scene("times", 2, 3, MAX, 3, 80);
        Check.due(29, "268435455 times 10", s.x.faults(2), 1);
        // the greatest int is above all ints as a float, and an int again when it is cast back
        s = new Scene().row(0, 2, 1).row(1, 1, 1, MAX).row(2, 1, 1).turns(1);
        s.tell("copy", 1, Scene.at(0, 0, 0, 0), Scene.at(1, 0, 0, 0), Scene.constant(0));
        s.tell("or", 1, Scene.at(2, 0, 0, 0), Scene.at(0, 0, 0, 0), Scene.constant(0));
        s.x.run();
        Check.due(29, "the float", s.x.get(0, 0), bits(2147483648f));
        Check.due(29, "the int", s.x.get(2, 0), MAX);
        s.row(2, 0, 1);
        s.x.run();
        Check.due(29, "its short", s.x.get(2, 0), -1);
    }

    private static void casts() {
        int[] told = {0, 9, -9, 7, -7, 1000, 524280, 560004, -560004, MAX, MIN, 16777217, -134217731, 33554433};
        for (int v : told) {
            due("copy", new int[] {0, 2, 1}, v, 0, (short) (int) (v / 8f));
            due("copy", new int[] {0, 3, 1}, v, 0, (short) (int) (v / 8d));
            due("copy", new int[] {1, 2, 1}, v, 0, (int) (v / 8f));
            due("copy", new int[] {1, 3, 1}, v, 0, (int) (v / 8d));
            due("copy", new int[] {2, 3, 1}, v, 0, bits((float) (v / 8d)));
            due("copy", new int[] {3, 2, 1}, v, 0, bits((double) (v / 8f)));
            due("copy", new int[] {0, 1, 1}, v, 0, (short) v);
            due("copy", new int[] {2, 1, 1}, v, 0, bits((float) v));
            due("copy", new int[] {3, 1, 1}, v, 0, bits((double) v));
            due("copy", new int[] {2, 0, 1}, v, 0, bits((float) (short) v));
            due("copy", new int[] {3, 0, 1}, v, 0, bits((double) (short) v));
        }
    }

    private static void noNegativeZero() {
        for (int form = 2; form <= 3; form++) {
            int[] forms = {form, form, form};
            due("mul", forms, -8, 0, 0);
            due("mul", forms, 0, -8, 0);
            due("rem", forms, -16, 8, 0);
            due("add", forms, -8192, 0, 0);
            due("sub", forms, -4096, 4096, 0);
            due("max", forms, 0, -8, 0);
        }
    }

    private static void pickInWidth() {
        for (int form = 0; form < 4; form++) {
            boolean greater = form != 2;
            Scene s = scene("pick", form, 1, MAX, 1, MAX - 1);
            Check.due(29, "pick for form " + form, s.x.writer(0, 0), greater ? 0 : -1);
        }
    }

    private static void constants() {
        Scene s = new Scene().row(0, 1, 12).turns(3);
        s.tell("sub", 4, Scene.at(0, 0, 4, 1), new int[] {-1, 60, 6, -5}, new int[] {-1, -60, 1, 1});
        s.x.run();
        for (int i = 0; i < 12; i++) {
            Check.due(29, "a constant is its from", s.x.get(0, i), 120);
        }
    }

    /** A product that goes on below the least double, and is cast to floats on its way. */
    private static void tinyDoubles() {
        Scene s = new Scene().row(0, 3, 1, 5).row(1, 3, 1, -3).row(2, 2, 1).row(3, 3, 1).turns(9);
        s.tell("mul", 1, Scene.at(0, 0, 0, 0), Scene.at(0, 0, 0, 0), Scene.at(1, 0, 0, 0));
        s.tell("copy", 1, Scene.at(2, 0, 0, 0), Scene.at(0, 0, 0, 0), Scene.constant(0));
        s.tell("rem", 1, Scene.at(3, 0, 0, 0), Scene.constant(43), Scene.at(0, 0, 0, 0));
        double a = 5 / 8d;
        for (int run = 0; run < 90; run++) {
            for (int turn = 0; turn < 9; turn++) {
                a = a * -0.375 % 1024 + 0d;
            }
            s.x.run();
            Check.due(29, "the product", s.x.get(0, 0), bits(a));
            Check.due(29, "as a float", s.x.get(2, 0), bits((float) a + 0f));
            Check.due(29, "as a divisor", s.x.get(3, 0), bits(a == 0 ? 0d : 43 % a));
        }
        Check.due(29, "it is 0 in the end", s.x.get(0, 0), 0);
    }

    private static void tinyFloats() {
        Scene s = new Scene().row(0, 2, 1, 7).row(1, 2, 1, -3).row(2, 2, 1).row(3, 3, 1).turns(1);
        s.tell("mul", 1, Scene.at(0, 0, 0, 0), Scene.at(0, 0, 0, 0), Scene.at(1, 0, 0, 0));
        s.tell("rem", 1, Scene.at(2, 0, 0, 0), Scene.constant(-59), Scene.at(0, 0, 0, 0));
        s.tell("add", 1, Scene.at(3, 0, 0, 0), Scene.at(0, 0, 0, 0), Scene.at(2, 0, 0, 0));
        float a = 7 / 8f;
        for (int run = 0; run < 110; run++) {
            a = a * -0.375f % 1024 + 0f;
            float rest = a == 0 ? 0 : -59 % a + 0f;
            s.x.run();
            Check.due(29, "the product", s.x.get(0, 0), bits(a));
            Check.due(29, "as a divisor", s.x.get(2, 0), bits(rest));
            Check.due(29, "a sum of doubles", s.x.get(3, 0), bits(((double) a + rest) % 1024 + 0d));
        }
        Check.due(29, "it is 0 in the end", s.x.get(0, 0), 0);
    }

    private static void greatRemainders() {
        int[] told = {MAX, MIN, MAX - 7, 1, 3, 7, 8191, 8192, 8193, -8191, -12345677, 999999937};
        for (int left : told) {
            for (int right : told) {
                double l = left / 8d;
                double r = right / 8d;
                float f = left / 8f;
                float g = right / 8f;
                due("rem", new int[] {3, 3, 3}, left, right, bits(l % r + 0d));
                due("mul", new int[] {3, 3, 3}, left, right, bits(l * r % 1024 + 0d));
                due("add", new int[] {3, 3, 3}, left, right, bits((l + r) % 1024 + 0d));
                due("rem", new int[] {2, 2, 2}, left, right, bits(f % g + 0f));
                due("mul", new int[] {2, 2, 2}, left, right, bits(f * g % 1024 + 0f));
                due("sub", new int[] {2, 2, 2}, left, right, bits((f - g) % 1024 + 0f));
                due("mul", new int[] {3, 1, 1}, left, right, bits((double) left * right % 1024 + 0d));
                due("mul", new int[] {2, 1, 1}, left, right, bits((float) left * right % 1024 + 0f));
            }
        }
    }
}
