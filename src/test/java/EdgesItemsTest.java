/** The edges that the document names of an item, a method a sentence: faults, operations, widths, casts. */
public final class EdgesItemsTest {
    private static final int MIN = Integer.MIN_VALUE, MAX = Integer.MAX_VALUE;
    private static final int GONE = 0, OUTSIDE = 1, OVER = 2, FINE = -1;
    private static final String[] NAMES = {
        "add", "sub", "mul", "rem", "max", "min", "and", "or", "xor", "copy", "pick", "sure", "times"};

    public static void main(String[] args) {
        readInOrder();
        copyHasNoRight();
        copyHasNoRightForItsWidth();
        lookedAtAheadOfTheOperation();
        targetThatIsNotWritten();
        goneRows();
        outsidePlaces();
        overSums();
        overProducts();
        faultEndsTheTurn();
        whatWasDoneStays();
        remByNothing();
        remOfTheLeast();
        pickGreater();
        pickInItsWidth();
        widthOfForms();
        widthOfConstants();
        alwaysInts();
        castToInts();
        castToFloats();
        intsWrap();
        modulo();
        noModulo();
        moduloOfFloats();
        zeroFromBelow();
        castToShorts();
        castToTheTarget();
        tooSmallForAFloat();
        leastFloats();
        leastDoubles();
        Check.end();
    }

    /** Row 0 of a form is the target, 1 left, 2 right; one turn of one item at cell 0 of each. */
    private static Scene item(String name, int target, int left, int leftCell, int right, int rightCell) {
        Scene s = new Scene().row(0, target, 1).row(1, left, 1, leftCell).row(2, right, 1, rightCell).turns(1);
        s.tell(name, 1, Scene.at(0, 0, 0, 0), Scene.at(1, 0, 0, 0), Scene.at(2, 0, 0, 0));
        s.x.run();
        return s;
    }

    private static void faulted(Scene s, String what, int due) {
        for (int kind = 0; kind < 3; kind++) {
            Check.due(what + ": faults(" + kind + ")", s.x.faults(kind), kind == due ? 1 : 0);
        }
        Check.due(what + ": items", s.x.count(6), due == FINE ? 1 : 0);
    }

    /** References of one turn and one item, by what comes of them: a fine one, a missing row, one of truths, a place outside. */
    private static int[] reference(int row, int fate) {
        int[][] all = {Scene.at(row, 0, 0, 0), Scene.at(5, 0, 0, 0), Scene.at(4, 0, 0, 0), Scene.at(row, 1, 0, 0)};
        return all[fate];
    }

    private static int faultOf(int fate) {
        return new int[] {FINE, GONE, GONE, OUTSIDE}[fate];
    }

    private static void readInOrder() {
        Check.sentence("LEFT is read, then RIGHT");
        for (int fates = 0; fates < 64; fates++) {
            int[] fate = {fates % 4, fates / 4 % 4, fates / 16};
            Scene s = new Scene().row(0, 1, 1).row(1, 1, 1).row(2, 1, 1).row(4, 4, 3, 1, 1, 1).turns(1);
            s.tell("add", 1, reference(0, fate[0]), reference(1, fate[1]), reference(2, fate[2]));
            s.x.run();
            int due = FINE;
            for (int which : new int[] {0, 2, 1}) {
                due = fate[which] == 0 ? due : faultOf(fate[which]);
            }
            faulted(s, "fates " + fates, due);
        }
    }

    private static void copyHasNoRight() {
        Check.sentence("(copy has none: what is told of it is not looked at)");
        for (int fates = 0; fates < 64; fates++) {
            int[] fate = {fates % 4, fates / 4 % 4, fates / 16};
            Scene s = new Scene().row(0, 1, 1).row(1, 1, 1, 9).row(2, 1, 1).row(4, 4, 3, 1, 1, 1).turns(1);
            s.tell("copy", 1, reference(0, fate[0]), reference(1, fate[1]), reference(2, fate[2]));
            s.x.run();
            int due = fate[1] != 0 ? faultOf(fate[1]) : faultOf(fate[0]);
            faulted(s, "fates " + fates, due);
            Check.due("get(0, 0)", s.x.get(0, 0), due == FINE ? 9 : 0);
            Check.due("right is not read", s.x.many(0, 2, 0), 0);
        }
        // however far outside of all rows
        for (int r = 0; r < 6; r += 5) {
            Scene s = new Scene().row(r, 1, 24).row(1, 1, 1, 9).turns(10);
            s.tell("copy", 5, Scene.at(1, 0, 0, 0), Scene.at(1, 0, 0, 0), Scene.at(r, r == 0 ? -60 : 60, r == 0 ? -6 : 6, r == 0 ? -6 : 6));
            Check.due("run()", s.x.run(), 50);
            Check.due("mixed()", s.x.mixed(4, 2, 5, 1), 50);
        }
    }

    private static void copyHasNoRightForItsWidth() {
        Check.sentence("(copy has none: what is told of it is not looked at), then TARGET is looked at");
        for (int right = 0; right < 4; right++) {
            Check.due("right of form " + right, item("copy", 1, 1, MAX - 1, right, 8).x.get(0, 0), MAX - 1);
        }
    }

    private static void lookedAtAheadOfTheOperation() {
        Check.sentence("then TARGET is looked at, then the OPERATION is done, then TARGET is written");
        for (int fate = 0; fate < 4; fate++) {
            Scene s = new Scene().row(0, 1, 1).row(1, 1, 1, MAX).row(2, 1, 1, MAX).row(4, 4, 3).turns(1);
            s.tell("sure", 1, reference(0, fate), Scene.at(1, 0, 0, 0), Scene.at(2, 0, 0, 0));
            s.x.run();
            faulted(s, "fate " + fate + " of a sum that is over", fate == 0 ? OVER : faultOf(fate));
        }
        // what is written is read by the next item, not by its own
        Scene s = new Scene().row(0, 1, 2, 3, 5).turns(1);
        s.tell("add", 2, Scene.at(0, 0, 0, 0), Scene.at(0, 0, 0, 0), Scene.at(0, 0, 0, 0));
        s.x.run();
        Check.due("3 doubled twice", s.x.get(0, 0), 12);
    }

    private static void targetThatIsNotWritten() {
        Check.sentence("then TARGET is looked at");
        for (int fate = 0; fate < 4; fate++) {
            Scene s = new Scene().row(0, 1, 1).row(1, 1, 1, 3).row(2, 1, 1, 3).row(4, 4, 3).turns(1);
            s.tell("pick", 1, reference(0, fate), Scene.at(1, 0, 0, 0), Scene.at(2, 0, 0, 0));
            s.x.run();
            faulted(s, "fate " + fate + " of a pick that does not write", fate == 0 ? FINE : faultOf(fate));
        }
    }

    private static void goneRows() {
        Check.sentence("0 GONE: the ROW of a REFERENCE that is read, or looked at, is MISSING or of truths");
        for (int which = 0; which < 3; which++) {
            for (int form = -1; form <= 4; form++) {
                Scene s = new Scene().row(0, 1, 1).row(1, 1, 1).turns(1);
                s.tell("add", 1, Scene.at(0, 0, 0, 0), Scene.at(1, 0, 0, 0), Scene.at(1, 0, 0, 0));
                s.x.refer(0, which, 5);
                if (form >= 0) {
                    s.row(5, form, 1, 1);
                }
                s.x.run();
                faulted(s, "reference " + which + " to form " + form, form < 0 || form == 4 ? GONE : FINE);
                s.row(5, 1, 3);
                s.x.lose(5);
                s.x.run();
                faulted(s, "reference " + which + " to a lost row", GONE);
            }
        }
    }

    private static void outsidePlaces() {
        Check.sentence("1 OUTSIDE: it has no CELL at PLACE");
        for (int which = 0; which < 3; which++) {
            for (int n : new int[] {0, 1, 23, 24}) {
                for (int from : new int[] {-60, -1, 0, n - 1, n, n + 1, 24, 60}) {
                    // the rows on both sides of the one that is looked at have all cells
                    Scene s = new Scene().row(1, 1, 24).row(2, 1, n).row(3, 1, 24).turns(1);
                    s.tell("add", 1, Scene.at(1, 0, 0, 0), Scene.at(1, 0, 0, 0), Scene.at(3, 0, 0, 0));
                    s.refer(0, which, 2, from, 0, 0);
                    s.x.run();
                    faulted(s, "place " + from + " of " + n + ", reference " + which, from < 0 || from >= n ? OUTSIDE : FINE);
                }
            }
        }
    }

    private static void overSums() {
        Check.sentence("sure, times (11, 12: the sum, the product; OVER, if it is no int)");
        int[][] sums = {{MAX, 0}, {MAX, 1}, {MAX - 60, 60}, {MAX - 59, 60}, {MIN, 0}, {MIN, -1}, {MIN + 60, -60}, {MIN + 59, -60},
            {MAX, MIN}, {MAX, MAX}, {MIN, MIN}, {0, MIN}, {-1, MIN}, {1 << 30, 1 << 30}, {(1 << 30) - 1, 1 << 30}};
        for (int[] p : sums) {
            long exact = (long) p[0] + p[1];
            overOrNot(item("sure", 1, 1, p[0], 1, p[1]), p[0] + " sure " + p[1], exact);
        }
    }

    private static void overProducts() {
        Check.sentence("the product; OVER, if it is no int");
        int[][] products = {{46340, 46340}, {46341, 46341}, {46341, -46341}, {65536, 32767}, {65536, 32768}, {65536, -32768},
            {65537, -32768}, {MAX, 1}, {MAX, -1}, {MAX, 2}, {MIN, 1}, {MIN, -1}, {-1, MIN}, {MIN, 0}, {MIN, MIN}, {65536, 65536},
            {MAX, MAX}, {715827882, 3}, {715827883, 3}, {0, MAX}};
        for (int[] p : products) {
            long exact = (long) p[0] * p[1];
            overOrNot(item("times", 1, 1, p[0], 1, p[1]), p[0] + " times " + p[1], exact);
        }
    }

    private static void overOrNot(Scene s, String what, long exact) {
        boolean over = exact > MAX || exact < MIN;
        faulted(s, what, over ? OVER : FINE);
        Check.due(what, s.x.get(0, 0), over ? 0 : exact);
        Check.due(what + ": the writer", s.x.writer(0, 0), over ? StrideTurns.NONE : 0);
    }

    private static void faultEndsTheTurn() {
        Check.sentence("A FAULT ends the TURN");
        int[][] faults = {Scene.at(5, 0, 0, 0), Scene.at(1, 1, 0, 0), Scene.at(1, 0, 0, 0)};
        for (int kind = 0; kind < 3; kind++) {
            Scene s = new Scene().row(0, 1, 9).row(1, 1, 1, MAX).turns(3);
            s.tell("sure", 5, Scene.at(0, 0, 3, 1), faults[kind], Scene.constant(1));
            s.tell("add", 1, Scene.at(0, 2, 3, 0), Scene.constant(7), Scene.constant(0));
            s.x.guard(0, 2, 1);
            // turn 1 does nothing, neither its other items nor statement 1; turns 0 and 2 are as they are
            Check.due("run()", s.x.run(), 2);
            Check.due("faults(" + kind + ")", s.x.faults(kind), 1);
            for (int i = 0; i < 9; i++) {
                Check.due("get(0, " + i + ")", s.x.get(0, i), i == 2 || i == 8 ? 7 : 0);
            }
            Check.due("turns that ended", s.x.ended(2), 2);
        }
    }

    private static void whatWasDoneStays() {
        Check.sentence("A FAULT ends the TURN; what was done in it stays.");
        Scene s = new Scene().row(0, 1, 3).row(1, 1, 4).turns(2);
        s.tell("copy", 1, Scene.at(1, 0, 1, 0), Scene.constant(4), Scene.constant(0));
        s.tell("copy", 5, Scene.at(0, 0, 0, 1), Scene.constant(6), Scene.constant(0));
        s.tell("copy", 1, Scene.at(1, 2, 1, 0), Scene.constant(8), Scene.constant(0));
        Check.due("run()", s.x.run(), 8);
        int[] due = {4, 4, 0, 0};
        for (int i = 0; i < 4; i++) {
            Check.due("get(1, " + i + ")", s.x.get(1, i), due[i]);
            Check.due("writer(1, " + i + ")", s.x.writer(1, i), i < 2 ? i : StrideTurns.NONE);
        }
        for (int i = 0; i < 3; i++) {
            Check.due("get(0, " + i + ")", s.x.get(0, i), 6);
        }
        Check.due("faults(1)", s.x.faults(1), 2);
    }

    private static void remByNothing() {
        Check.sentence("rem by 0 is 0");
        for (int target = 0; target < 4; target++) {
            for (int form = 0; form < 4; form++) {
                for (int left : new int[] {0, 7, -7, MAX, MIN}) {
                    Scene s = item("rem", target, form, left, form, 0);
                    Check.due(left + " of form " + form + " for " + target, s.x.get(0, 0), 0);
                    faulted(s, "rem by 0", FINE);
                    Check.due("it is written", s.x.writer(0, 0), 0);
                }
            }
        }
        Scene s = new Scene().row(0, 2, 1, 9).turns(1);
        s.tell("rem", 1, Scene.at(0, 0, 0, 0), Scene.constant(60), Scene.constant(0));
        s.x.run();
        Check.due("of constants", s.x.get(0, 0), 0);
    }

    private static void remOfTheLeast() {
        Check.sentence("add, sub, mul, rem (0 to 3; LEFT and RIGHT; rem by 0 is 0)");
        int[][] pairs = {{MIN, -1}, {MIN, 1}, {MIN, MIN}, {MAX, MIN}, {MIN, MAX}, {7, 7}, {6, 7}, {-7, 3}, {7, -3}, {0, -5}, {-1, 60}};
        for (int[] p : pairs) {
            Check.due(p[0] + " rem " + p[1], item("rem", 1, 1, p[0], 1, p[1]).x.get(0, 0), (long) p[0] % p[1]);
            double due = p[0] / 8d % (p[1] / 8d) + 0d;
            Check.due("of doubles", item("rem", 3, 3, p[0], 3, p[1]).x.get(0, 0), Double.doubleToLongBits(due));
            float small = p[0] / 8f % (p[1] / 8f) + 0f;
            Check.due("of floats", item("rem", 2, 2, p[0], 2, p[1]).x.get(0, 0), Float.floatToIntBits(small));
        }
    }

    private static void pickGreater() {
        Check.sentence("pick (10: LEFT, if it is greater than RIGHT; else TARGET is not written)");
        int[][] pairs = {{4, 3}, {3, 3}, {2, 3}, {0, 0}, {0, -1}, {-1, 0}, {MAX, MAX - 1}, {MAX, MAX}, {MIN, MAX}, {MAX, MIN},
            {MIN, MIN}, {MIN + 1, MIN}};
        for (int form : new int[] {1, 3}) {
            for (int[] p : pairs) {
                Scene s = new Scene().row(0, form, 1, 77).row(1, form, 1, p[0]).row(2, form, 1, p[1]).turns(1);
                s.tell("pick", 1, Scene.at(0, 0, 0, 0), Scene.at(1, 0, 0, 0), Scene.at(2, 0, 0, 0));
                long before = s.x.get(0, 0);
                Check.due("it is done", s.x.run(), 1);
                Check.due(p[0] + " pick " + p[1], s.x.get(0, 0), p[0] > p[1] ? s.x.get(1, 0) : before);
                Check.due("the writer", s.x.writer(0, 0), p[0] > p[1] ? 0 : StrideTurns.NONE);
            }
        }
    }

    private static void pickInItsWidth() {
        Check.sentence("the OPERATION is done in it");
        // the two greatest ints are one float, and two doubles
        for (int form = 0; form < 4; form++) {
            Scene s = item("pick", form, 1, MAX, 1, MAX - 1);
            Check.due("pick for form " + form, s.x.writer(0, 0), form == 2 ? StrideTurns.NONE : 0);
        }
    }

    /** The product by a width, cast to a form, as get() tells it. */
    private static long product(int width, int form, double left, double right) {
        double value = width == 1 ? (int) left * (int) right
                : width == 2 ? (float) left * (float) right % 1024 : left * right % 1024;
        switch (form) {
            case 0: return (short) (int) value;
            case 1: return (int) value;
            case 2: return Float.floatToIntBits((float) value);
            default: return Double.doubleToLongBits(value);
        }
    }

    private static void widthOfForms() {
        Check.sentence("WIDTH: ints, if TARGET, LEFT and RIGHT are shorts, ints or CONSTANTS; else floats, or, if one is doubles, doubles");
        int left = 30001;
        int right = 30003;
        for (int forms = 0; forms < 64; forms++) {
            int t = forms % 4;
            int l = forms / 4 % 4;
            int r = forms / 16;
            int width = Math.max(1, Math.max(t, Math.max(l, r)));
            Scene s = item("mul", t, l, l > 1 ? 8 * left : left, r, r > 1 ? 8 * right : right);
            Check.due("forms " + t + " of " + l + " and " + r, s.x.get(0, 0), product(width, t, left, right));
            Check.holds("by another width it is another one",
                    product(1, t, left, right) != product(3, t, left, right) && product(2, t, left, right) != product(3, t, left, right));
        }
    }

    private static void widthOfConstants() {
        Check.sentence("are shorts, ints or CONSTANTS");
        for (int form = 0; form < 4; form++) {
            Scene s = new Scene().row(0, form, 1).turns(1);
            s.tell("mul", 1, Scene.at(0, 0, 0, 0), Scene.constant(-60), Scene.constant(60));
            s.x.run();
            Check.due("of two constants for form " + form, s.x.get(0, 0), product(Math.max(1, form), form, -60, 60));
        }
        Scene s = new Scene().row(0, 1, 1).row(1, 2, 1, 8 * 60).turns(1);
        s.tell("mul", 1, Scene.at(0, 0, 0, 0), Scene.at(1, 0, 0, 0), Scene.constant(60));
        s.x.run();
        Check.due("of a float and a constant", s.x.get(0, 0), 3600 % 1024);
    }

    private static void alwaysInts() {
        Check.sentence("of and, or, xor, sure, times always ints");
        for (int forms = 0; forms < 64; forms++) {
            int t = forms % 4;
            int l = forms / 4 % 4;
            int r = forms / 16;
            int[] values = {-6001, 29};
            int[] due = {-6001 & 29, -6001 | 29, -6001 ^ 29, -6001 + 29, -6001 * 29};
            String[] names = {"and", "or", "xor", "sure", "times"};
            for (int n = 0; n < names.length; n++) {
                // of floats and doubles 7 of 8 are cut off as they are cast
                Scene s = item(names[n], t, l, l > 1 ? 8 * values[0] - 7 : values[0], r, r > 1 ? 8 * values[1] + 7 : values[1]);
                long told = t == 0 ? (short) due[n] : t == 1 ? due[n] : t == 2 ? Float.floatToIntBits(due[n])
                        : Double.doubleToLongBits(due[n]);
                Check.due(names[n] + ", forms " + t + " of " + l + " and " + r, s.x.get(0, 0), told);
            }
        }
    }

    private static void castToInts() {
        Check.sentence("LEFT and RIGHT are cast to it as Java casts");
        // row 1 comes to hold the greatest int as a float: that is above all ints, and is cast to the greatest one
        Scene s = new Scene().row(0, 1, 1, MAX).row(1, 2, 1).row(2, 1, 1).row(3, 3, 1).turns(1);
        s.tell("copy", 1, Scene.at(1, 0, 0, 0), Scene.at(0, 0, 0, 0), Scene.constant(0));
        s.tell("or", 1, Scene.at(2, 0, 0, 0), Scene.at(1, 0, 0, 0), Scene.constant(0));
        s.tell("sure", 1, Scene.at(3, 0, 0, 0), Scene.constant(1), Scene.at(1, 0, 0, 0));
        s.x.run();
        Check.due("the float", s.x.get(1, 0), Float.floatToIntBits(2147483648f));
        Check.due("the int", s.x.get(2, 0), MAX);
        Check.due("one more is over", s.x.faults(2), 1);
        s.x.put(0, 1, 0, MIN);
        s.x.run();
        Check.due("the least float", s.x.get(1, 0), Float.floatToIntBits(-2147483648f));
        Check.due("the least int", s.x.get(2, 0), MIN);
        Check.due("one more", s.x.get(3, 0), Double.doubleToLongBits(MIN + 1d));
        for (int eighths : new int[] {7, -7, 8, -8, 15, -15, MAX, MIN + 1}) {
            Check.due(eighths + " by 8", item("or", 1, 3, eighths, 1, 0).x.get(0, 0), (int) (eighths / 8d));
        }
    }

    private static void castToFloats() {
        Check.sentence("cast to it as Java casts (CONSTANTS are ints)");
        for (int v : new int[] {16777216, 16777217, 16777218, 16777219, -16777217, MAX, MAX - 64, MAX - 65, MIN, MIN + 1}) {
            Check.due(v + " as a float", item("max", 2, 1, v, 1, v).x.get(0, 0), Float.floatToIntBits((float) v));
            String farther = v < 0 ? "min" : "max";
            Check.due(v + " by way of a float", item(farther, 1, 1, v, 2, 0).x.get(0, 0), (int) (float) v);
            Check.due(v + " as a double", item(farther, 3, 1, v, 2, 0).x.get(0, 0), Double.doubleToLongBits(v));
        }
    }

    private static void intsWrap() {
        Check.sentence("ints wrap");
        int[][] pairs = {{MAX, 1}, {MAX, MAX}, {MIN, -1}, {MIN, MIN}, {MIN, 1}, {65536, 65536}, {46341, 46341}, {MAX, MIN}};
        for (int[] p : pairs) {
            for (int target = 0; target < 2; target++) {
                int[] due = {p[0] + p[1], p[0] - p[1], p[0] * p[1]};
                for (int n = 0; n < 3; n++) {
                    Scene s = item(NAMES[n], target, 1, p[0], 1, p[1]);
                    Check.due(p[0] + " " + NAMES[n] + " " + p[1], s.x.get(0, 0), target == 0 ? (short) due[n] : due[n]);
                    faulted(s, NAMES[n], FINE);
                }
            }
        }
    }

    /** Of floats or doubles, told in eighths; the answer in eighths, too. */
    private static void eighths(String name, int left, int right, double due) {
        for (int form = 2; form < 4; form++) {
            long told = form == 2 ? Float.floatToIntBits((float) (due / 8)) : Double.doubleToLongBits(due / 8);
            String what = left + " " + name + " " + right + ", form " + form;
            Check.due(what, item(name, form, form, left, form, right).x.get(0, 0), told);
        }
    }

    private static void modulo() {
        Check.sentence("of floats and doubles what add, sub, mul give is taken modulo 1024 (as Java's % does)");
        int whole = 8 * 1024;
        eighths("add", whole - 1, 0, whole - 1);
        eighths("add", whole - 1, 1, 0);
        eighths("add", whole - 1, 2, 1);
        eighths("add", whole, whole, 0);
        eighths("add", 1 - whole, 0, 1 - whole);
        eighths("add", -whole, 0, 0);
        eighths("add", -whole, -1, -1);
        eighths("sub", 0, whole - 1, 1 - whole);
        eighths("sub", 0, whole, 0);
        eighths("sub", -1, whole, -1);
        eighths("sub", whole, -1, 1);
        eighths("mul", 256, 256, 0);
        eighths("mul", 256, 255, whole - 32);
        eighths("mul", 256, 257, 32);
        eighths("mul", -256, 257, -32);
        eighths("mul", -256, 256, 0);
        eighths("mul", 1 << 30, 1 << 30, 0);
    }

    private static void noModulo() {
        Check.sentence("what add, sub, mul give is taken modulo 1024");
        eighths("rem", 80000, 48000, 32000);
        eighths("rem", 80000, 90000, 80000);
        eighths("max", 80000, 9000, 80000);
        eighths("min", 80000, 9000, 9000);
        eighths("copy", 80000, 0, 80000);
        eighths("pick", 80000, 9000, 80000);
        for (int target = 2; target < 4; target++) {
            long due = target == 2 ? Float.floatToIntBits(4000f) : Double.doubleToLongBits(4000d);
            Check.due("sure", item("sure", target, 1, 1500, 1, 2500).x.get(0, 0), due);
            Check.due("times", item("times", target, 1, 40, 1, 100).x.get(0, 0), due);
            Check.due("xor", item("xor", target, 1, 4001, 1, 1).x.get(0, 0), due);
        }
    }

    private static void moduloOfFloats() {
        Check.sentence("the OPERATION is done in it: ints wrap; of floats and doubles");
        // a float has no 16777217, so the modulus is taken of what the sum of floats is
        Check.due("floats", item("add", 2, 1, 16777216, 1, 1).x.get(0, 0), 0);
        Check.due("doubles", item("add", 3, 1, 16777216, 1, 1).x.get(0, 0), Double.doubleToLongBits(1d));
        Check.due("floats", item("mul", 2, 1, 4097, 1, 4097).x.get(0, 0), Float.floatToIntBits(4097f * 4097f % 1024));
        Check.due("doubles", item("mul", 3, 1, MAX, 1, MAX).x.get(0, 0), Double.doubleToLongBits((double) MAX * MAX % 1024));
    }

    private static void zeroFromBelow() {
        Check.sentence("what comes as -0.0 is 0");
        eighths("mul", 0, -8, 0);
        eighths("mul", -8, 0, 0);
        eighths("mul", -64, 8 * 1024, 0);
        eighths("add", -8192, 0, 0);
        eighths("add", -4096, -4096, 0);
        eighths("sub", -8192, 0, 0);
        eighths("sub", -4096, 4096, 0);
        eighths("rem", -16, 8, 0);
        eighths("rem", -8, 8, 0);
        eighths("rem", -8, -8, 0);
        eighths("max", 0, -8, 0);
        eighths("min", 0, 8, 0);
    }

    private static void castToShorts() {
        Check.sentence("floats, doubles to shorts by ints");
        for (int left : new int[] {8 * 32767, 8 * 32768, 8 * 65536 + 8, -8 * 32768, -8 * 32769, MAX, MIN, -1, -7, -8}) {
            Check.due(left + " by 8, a float", item("copy", 0, 2, left, 1, 0).x.get(0, 0), (short) (int) (left / 8f));
            Check.due(left + " by 8, a double", item("copy", 0, 3, left, 1, 0).x.get(0, 0), (short) (int) (left / 8d));
        }
        // above all ints a float is the greatest int first, whose lowest bits are -1
        Check.due("the greatest int, by a float", item("max", 0, 1, MAX, 2, 0).x.get(0, 0), -1);
        Check.due("the least int, by a float", item("min", 0, 1, MIN, 2, 0).x.get(0, 0), 0);
    }

    private static void castToTheTarget() {
        Check.sentence("It is cast as Java casts to the FORM of TARGET");
        Check.due("an int to a short", item("copy", 0, 1, 98304, 1, 0).x.get(0, 0), -32768);
        Check.due("an int to a float", item("or", 2, 1, 16777217, 1, 0).x.get(0, 0), Float.floatToIntBits(16777216f));
        Check.due("an int to a double", item("or", 3, 1, 16777217, 1, 0).x.get(0, 0), Double.doubleToLongBits(16777217d));
        Check.due("a float to an int", item("copy", 1, 2, 8 * 9 + 7, 1, 0).x.get(0, 0), 9);
        Check.due("a float below 0 to an int", item("copy", 1, 2, -8 * 9 - 7, 1, 0).x.get(0, 0), -9);
        Check.due("a float above all ints", item("max", 1, 1, MAX, 2, 0).x.get(0, 0), MAX);
        Check.due("a float to a double", item("copy", 3, 2, 3, 1, 0).x.get(0, 0), Double.doubleToLongBits(0.375));
        Check.due("a double to a float", item("copy", 2, 3, MAX, 1, 0).x.get(0, 0), Float.floatToIntBits((float) (MAX / 8d)));
        Check.due("a double to an int", item("copy", 1, 3, -15, 1, 0).x.get(0, 0), -1);
    }

    private static void tooSmallForAFloat() {
        Check.sentence("-0.0 is 0 there, too");
        // row 0 becomes a double below 0 that is too near to 0 for a float, row 2 a float by so many steps itself
        Scene s = new Scene().row(0, 3, 1, -1).row(1, 2, 1).row(2, 2, 1, -1).turns(10);
        s.tell("mul", 5, Scene.at(0, 0, 0, 0), Scene.at(0, 0, 0, 0), Scene.at(3, 0, 0, 0));
        s.tell("mul", 5, Scene.at(2, 0, 0, 0), Scene.at(2, 0, 0, 0), Scene.at(3, 0, 0, 0));
        s.tell("copy", 1, Scene.at(1, 0, 0, 0), Scene.at(0, 0, 0, 0), Scene.constant(0));
        s.row(3, 2, 1, 1);
        s.x.run();
        Check.due("the double", s.x.get(0, 0), Double.doubleToLongBits(-0.125 / (1L << 50) / (1L << 50) / (1L << 50)));
        Check.due("cast to a float", s.x.get(1, 0), 0);
        Check.due("what comes of floats", s.x.get(2, 0), 0);
    }

    /** A loop that divides a cell by eight, told by an eighth. */
    private static Scene lessening(int form, int cell) {
        Scene s = new Scene().row(0, form, 1, cell).row(1, form, 1, 1).turns(1);
        s.tell("mul", 1, Scene.at(0, 0, 0, 0), Scene.at(0, 0, 0, 0), Scene.at(1, 0, 0, 0));
        return s;
    }

    private static void leastFloats() {
        Check.sentence("the bits of a float as an int");
        for (int cell : new int[] {1, -1, 5, -7, 16777215}) {
            Scene s = lessening(2, cell);
            float due = cell / 8f;
            for (int run = 0; run < 62; run++) {
                Check.due(cell + " by eight, " + run + " times", s.x.get(0, 0), Float.floatToIntBits(due));
                s.x.run();
                due = due / 8 % 1024 + 0f;
            }
            Check.due("0 in the end", s.x.get(0, 0), 0);
        }
    }

    private static void leastDoubles() {
        Check.sentence("of a double as a long");
        for (int cell : new int[] {1, -5, MAX}) {
            Scene s = lessening(3, cell);
            s.turns(10);
            double due = cell / 8d;
            for (int run = 0; run < 40; run++) {
                Check.due(cell + " by eight, " + 10 * run + " times", s.x.get(0, 0), Double.doubleToLongBits(due));
                // near the least doubles each step is looked at
                s.x.turns(run < 33 ? 10 : 1);
                s.x.run();
                for (int turn = 0; turn < (run < 33 ? 10 : 1); turn++) {
                    due = due / 8 % 1024 + 0d;
                }
            }
            for (int run = 0; run < 30; run++) {
                s.x.run();
                due = due / 8 % 1024 + 0d;
                Check.due("one more", s.x.get(0, 0), Double.doubleToLongBits(due));
            }
            Check.due("0 in the end", s.x.get(0, 0), 0);
        }
    }
}
