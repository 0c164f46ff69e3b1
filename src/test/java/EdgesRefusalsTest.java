import java.util.Arrays;
import java.util.function.ToLongBiFunction;
import java.util.function.ToLongFunction;

/** What the document says of refusals: each number of each call, the order of refusals, what they change, what a long answers. */
public final class EdgesRefusalsTest {
    private static final int MIN = Integer.MIN_VALUE, MAX = Integer.MAX_VALUE;
    private static final int BAD = StrideTurns.BAD, NOT = StrideTurns.NOT, FULL = StrideTurns.FULL;
    private static final int[] ANY = {MIN, MAX}, ROW = {0, 5}, STATEMENT = {0, 4}, REFERENCE = {0, 2}, TURN = {0, 9};

    public static void main(String[] args) {
        eachNumber();
        orderOfRows();
        orderOfCopies();
        orderOfTexts();
        orderOfForms();
        orderOfRuns();
        nothingChanged();
        fullChangesNothing();
        findingsChangeTheirNumber();
        notAndFullAreNoFindings();
        leastLong();
        leastInts();
        Check.end();
    }

    private interface Call extends ToLongBiFunction<StrideTurns, int[]> {
    }

    /** All there may be, so that each number is refused by its own bounds alone. */
    private static Scene full() {
        Scene s = new Scene().turns(10);
        for (int r = 0; r < 6; r++) {
            s.row(r, 1, 24);
        }
        for (int k = 0; k < 5; k++) {
            s.tell("or", 2, Scene.at(k, 0, 2, 1), Scene.at(k, 0, 1, 1), Scene.at(k, 3, 0, 0));
        }
        return s;
    }

    /** At its bounds a number is not BAD; beyond them it is. */
    private static void bounds(int promise, String name, Call call, long bad, int[] good, int[]... bounds) {
        for (int at = 0; at < good.length; at++) {
            for (int end = 0; end < 2; end++) {
                int[] taken = good.clone();
                taken[at] = bounds[at][end];
                String what = "promise " + promise + ", " + name + Arrays.toString(taken);
                Check.holds(what + " is not bad", call.applyAsLong(full().x, taken) != bad);
            }
            for (int beyond : Scene.beyond(bounds[at][0], bounds[at][1])) {
                boolean inside = beyond >= bounds[at][0] && beyond <= bounds[at][1];
                int[] refused = good.clone();
                refused[at] = beyond;
                if (!inside) {
                    String what = "promise " + promise + ", " + name + Arrays.toString(refused);
                    Check.due(what, call.applyAsLong(full().x, refused), bad);
                }
            }
        }
    }

    private static int[] to(int least, int most) {
        return new int[] {least, most};
    }

    private static int[] of(int... arguments) {
        return arguments;
    }

    private static void eachNumber() {
        Check.sentence("BAD -2 (a number not as told, no such thing)");
        boundsOfRows();
        boundsOfTheLoop();
        boundsOfSections();
        boundsOfSets();
        boundsOfRuns();
    }

    private static void boundsOfRows() {
        bounds(2, "row", (x, a) -> x.row(a[0], a[1], a[2]), BAD, of(2, 1, 3), ROW, to(0, 4), to(MIN, 24));
        bounds(3, "lose", (x, a) -> x.lose(a[0]), BAD, of(2), ROW);
        bounds(4, "put", (x, a) -> x.put(a[0], a[1], a[2], a[3]), BAD, of(2, 1, 3, 4), ROW, to(0, 4), ANY, ANY);
        bounds(5, "get", (x, a) -> x.get(a[0], a[1]), Long.MIN_VALUE + 2, of(2, 3), ROW, ANY);
        bounds(6, "copy", (x, a) -> x.copy(a[0], a[1], a[2], a[3], a[4]), BAD, of(2, 1, 3, 2, 4), ROW, ANY, ROW, ANY, ANY);
    }

    private static void boundsOfTheLoop() {
        bounds(7, "turns", (x, a) -> x.turns(a[0]), BAD, of(3), to(0, 10));
        bounds(8, "type", (x, a) -> x.type(a[0]), BAD, of(3), to(0, 255));
        bounds(10, "statement", (x, a) -> x.statement(a[0]), BAD, of(3), to(1, 5));
        bounds(11, "refer", (x, a) -> x.refer(a[0], a[1], a[2]), BAD, of(2, 1, 3), STATEMENT, REFERENCE, to(-1, 5));
        bounds(11, "refer", (x, a) -> x.refer(a[0], 0, a[1]), BAD, of(2, 3), STATEMENT, ROW);
        bounds(12, "place", (x, a) -> x.place(a[0], a[1], a[2], a[3], a[4]), BAD, of(2, 1, 3, 1, 1),
                STATEMENT, REFERENCE, to(-60, 60), to(-6, 6), to(-6, 6));
        bounds(13, "guard", (x, a) -> x.guard(a[0], a[1], a[2]), BAD, of(2, 6, 0), STATEMENT, to(1, 6), to(0, 5));
        bounds(13, "guard", (x, a) -> x.guard(a[0], 2, a[1]), BAD, of(2, 0), STATEMENT, to(0, 1));
        bounds(14, "mask", (x, a) -> x.mask(a[0], a[1]), BAD, of(2, 3), STATEMENT, to(-1, 5));
        bounds(16, "info", (x, a) -> x.info(a[0], a[1]), BAD, of(2, 3), STATEMENT, to(0, 6));
        bounds(17, "reference", (x, a) -> x.reference(a[0], a[1], a[2]), MIN, of(2, 1, 3), STATEMENT, REFERENCE, to(0, 3));
    }

    private static void boundsOfSections() {
        bounds(18, "section", (x, a) -> x.section(a[0], a[1], a[2]), MIN, of(7, 3, 0), to(0, 14), TURN, to(0, 2));
        bounds(19, "meet", (x, a) -> x.meet(a[0], a[1], a[2], a[3], a[4]), MIN, of(7, 3, 4, 2, 0),
                to(0, 14), TURN, to(0, 14), TURN, to(0, 3));
        bounds(20, "kinds", (x, a) -> x.kinds(a[0], a[1]), BAD, of(2, 3), STATEMENT, ROW);
        // statement 0 has right's one kind, left's ten and target's ten, of which five are left's, too
        Check.due("kinds(0, 0)", full().x.kinds(0, 0), 16);
        bounds(21, "kind", (x, a) -> x.kind(0, 0, a[0], a[1]), MIN, of(7, 0), to(0, 15), to(0, 3));
        bounds(21, "kind", (x, a) -> x.kind(a[0], a[0], 0, 0), MIN, of(2), STATEMENT);
    }

    private static void boundsOfSets() {
        bounds(22, "many", (x, a) -> x.many(a[0], a[1], a[2]), BAD, of(1, 2, 3), to(0, 3), ROW, to(-1, 9));
        bounds(23, "pieces", (x, a) -> x.pieces(a[0], a[1], a[2]), BAD, of(1, 2, 3), to(0, 3), ROW, to(-1, 9));
        Check.due("pieces(0, 0, 9)", full().x.pieces(0, 0, 9), 2);
        bounds(24, "piece", (x, a) -> x.piece(a[0], 0, a[1], a[2], a[3]), BAD, of(0, 9, 1, 0), to(0, 0), to(5, 9), to(0, 1), to(0, 2));
        bounds(24, "piece", (x, a) -> x.piece(a[0], a[1], a[2], 0, 0), BAD, of(1, 2, 3), to(0, 3), to(0, 4), to(-1, 9));
        bounds(25, "verdict", (x, a) -> x.verdict(a[0]), BAD, of(2), ROW);
        bounds(26, "would", (x, a) -> x.would(a[0], a[1]), BAD, of(2, 1), ROW, to(0, 3));
        bounds(27, "witness", (x, a) -> x.witness(a[0], a[1]), BAD, of(2, 1), ROW, to(0, 2));
        bounds(28, "last", (x, a) -> x.last(a[0], a[1], a[2]), BAD, of(1, 2, 3), to(1, 2), ROW, to(0, 23));
    }

    private static void boundsOfRuns() {
        bounds(30, "mixed", (x, a) -> x.mixed(a[0], a[1], a[2], a[3]), BAD, of(2, 1, 3, 1), to(1, 4), to(0, 2), to(0, 63), to(0, 1));
        bounds(31, "same", (x, a) -> x.same(a[0], a[1], a[2], a[3]), BAD, of(2, 1, 3, 1), to(1, 4), to(0, 2), to(0, 63), to(0, 1));
        bounds(32, "faults", (x, a) -> x.faults(a[0]), BAD, of(1), to(0, 2));
        bounds(33, "ended", (x, a) -> x.ended(a[0]), BAD, of(1), to(0, 9));
        bounds(34, "writer", (x, a) -> x.writer(a[0], a[1]), BAD, of(2, 3), ROW, ANY);
        bounds(35, "count", (x, a) -> x.count(a[0]), BAD, of(1), to(0, 8));
    }

    private static void orderOfRows() {
        Check.sentence("Refusals, the first that fits, in the order told at each act");
        Scene s = new Scene().row(0, 1, 2);
        Check.due("row(): a bad row, a bad form, below 0", s.x.row(6, 5, -1), BAD);
        Check.due("row(): a bad form, below 0", s.x.row(0, 5, -1), BAD);
        Check.due("put(): a bad row and form", s.x.put(6, 5, 9, 0), BAD);
        Check.due("put(): a bad form of a missing row", s.x.put(5, 5, 9, 0), BAD);
        Check.due("put(): a missing row, no cell", s.x.put(5, 0, 9, 0), Scene.NULL);
        Check.due("put(): another form, no cell", s.x.put(0, 0, 9, 0), Scene.CAST);
        Check.due("put(): no cell", s.x.put(0, 1, 9, 0), Scene.INDEX);
        Check.due("get(): a bad row, no cell", s.x.get(6, 9), Scene.refused(BAD));
        Check.due("get(): a missing row, no cell", s.x.get(5, 9), Scene.refused(Scene.NULL));
        Check.due("writer(): a bad row, no cell", s.x.writer(6, 9), BAD);
        Check.due("writer(): a missing row, no cell", s.x.writer(5, 9), Scene.NULL);
        Check.due("writer(): no cell", s.x.writer(0, 9), Scene.INDEX);
    }

    private static void orderOfCopies() {
        Check.sentence("BAD -2 (a number not as told, no such thing), NULL, NOT -3 (as told), FULL -4, other FINDINGS");
        Scene s = new Scene().row(0, 1, 2).row(1, 2, 2);
        Check.due("a bad row, a missing one", s.x.copy(6, 9, 5, 9, -1), BAD);
        Check.due("a missing row, a bad one", s.x.copy(5, 9, 6, 9, -1), BAD);
        Check.due("a missing row, a form", s.x.copy(5, 9, 1, 9, -1), Scene.NULL);
        Check.due("a form, a missing row", s.x.copy(1, 9, 5, 9, -1), Scene.NULL);
        Check.due("unlike forms, no cell", s.x.copy(0, 9, 1, 9, -1), Scene.STORE);
        Check.due("no cell", s.x.copy(0, 9, 0, 9, -1), Scene.INDEX);
    }

    private static void orderOfTexts() {
        Check.sentence("in the order told at each act: BAD -2");
        Scene s = new Scene();
        s.type("minus");
        Check.due("type(): a bad byte, a full text", s.x.type(256), BAD);
        Check.due("type(): a full text", s.x.type(0), FULL);
        for (int k = 0; k < 5; k++) {
            s.x.wipe();
            s.state("min", 1);
        }
        s.type("minus");
        Check.due("statement(): a bad count, no name, a sixth", s.x.statement(0), BAD);
        Check.due("statement(): no name, a sixth", s.x.statement(1), NOT);
        s.x.wipe();
        s.type("min");
        Check.due("statement(): a bad count, a sixth", s.x.statement(6), BAD);
        Check.due("statement(): a sixth", s.x.statement(1), FULL);
    }

    private static void orderOfForms() {
        Check.sentence("BAD; NULL; NOT: it is of truths.");
        Scene s = new Scene().row(0, 4, 2);
        Check.due("would(): a bad row and form", s.x.would(6, 4), BAD);
        Check.due("would(): a bad form of a missing row", s.x.would(5, 4), BAD);
        Check.due("would(): a bad form of truths", s.x.would(0, 4), BAD);
        Check.due("would(): a missing row", s.x.would(5, 3), Scene.NULL);
        Check.due("would(): truths", s.x.would(0, 3), NOT);
    }

    private static void orderOfRuns() {
        Check.sentence("BAD; NOT: THE LOOP is not PARALLEL");
        Scene s = new Scene().row(0, 1, 9).turns(3);
        s.tell("add", 1, Scene.at(0, 1, 1, 0), Scene.at(0, 0, 1, 0), Scene.constant(1));
        int[][] bad = {{0, 0, 0, 0}, {1, 3, 0, 0}, {1, 0, 64, 0}, {1, 0, 0, 2}};
        for (int[] b : bad) {
            Check.due("mixed(): a bad one that is not parallel", s.x.mixed(b[0], b[1], b[2], b[3]), BAD);
            Check.due("same(): a bad one that is not parallel", s.x.same(b[0], b[1], b[2], b[3]), BAD);
        }
        Check.due("mixed(): not parallel", s.x.mixed(1, 0, 0, 0), NOT);
        Check.due("same(): not parallel", s.x.same(1, 0, 0, 0), NOT);
    }

    private interface Act extends ToLongFunction<StrideTurns> {
    }

    /** Calls that a scene like full() refuses by BAD or NOT: each call that may be refused, by its numbers. */
    private static final Act[] REFUSED = {
        x -> x.row(6, 1, 1), x -> x.row(0, 5, 1), x -> x.row(0, 1, 25), x -> x.lose(6), x -> x.put(6, 1, 0, 0),
        x -> x.put(0, 5, 0, 0), x -> x.get(6, 0), x -> x.copy(6, 0, 0, 0, 1), x -> x.copy(0, 0, 6, 0, 1), x -> x.turns(11),
        x -> x.turns(-1), x -> x.type(256), x -> x.statement(0), x -> x.statement(6), x -> x.statement(1), x -> x.refer(5, 0, 0),
        x -> x.refer(0, 3, 0), x -> x.refer(0, 0, -1), x -> x.refer(0, 1, 6), x -> x.place(5, 0, 0, 0, 0),
        x -> x.place(0, 3, 0, 0, 0), x -> x.place(0, 0, 61, 1, 1), x -> x.place(0, 0, 1, 7, 1), x -> x.place(0, 0, 1, 1, 7),
        x -> x.guard(5, 1, 0), x -> x.guard(0, 7, 0), x -> x.guard(0, 3, 3), x -> x.mask(5, 0), x -> x.mask(0, 6),
        x -> x.info(5, 0), x -> x.info(0, 7), x -> x.reference(0, 3, 0), x -> x.section(15, 0, 0), x -> x.section(0, 10, 0),
        x -> x.meet(0, 0, 15, 0, 0), x -> x.meet(0, 10, 0, 0, 0), x -> x.kinds(5, 0), x -> x.kinds(0, 6), x -> x.kind(0, 0, 30, 0),
        x -> x.kind(0, 0, 0, 4), x -> x.many(4, 0, 0), x -> x.pieces(0, 6, 0), x -> x.piece(0, 0, 0, 24, 0),
        x -> x.piece(0, 0, 0, 0, 3), x -> x.verdict(6), x -> x.would(0, 4), x -> x.would(6, 0), x -> x.witness(0, 3),
        x -> x.witness(6, 0), x -> x.last(0, 0, 0), x -> x.last(1, 0, 24), x -> x.mixed(5, 0, 0, 1), x -> x.mixed(4, 0, 0, 2),
        x -> x.mixed(4, 0, 0, 0), x -> x.same(4, 3, 0, 1), x -> x.same(4, 0, 64, 1), x -> x.same(4, 0, 0, 0), x -> x.faults(3),
        x -> x.ended(10), x -> x.writer(6, 0), x -> x.count(9)};

    /** Calls that such a scene, with row 5 lost, refuses by a finding, and the findings' numbers. */
    private static final int[] NUMBERS = {5, 5, 1, 3, 2, 2, 2, 1, 1, 4, 2, 2, 2, 1, 1, 2};
    private static final Act[] FOUND = {
        x -> x.row(0, 1, -1), x -> x.row(5, 4, MIN), x -> x.lose(5), x -> x.put(0, 0, 0, 5), x -> x.put(0, 1, 24, 5),
        x -> x.put(0, 1, -1, 5), x -> x.get(0, 24), x -> x.get(5, 0), x -> x.copy(0, 0, 5, 0, 1), x -> x.copy(0, 0, 4, 0, 1),
        x -> x.copy(0, 0, 1, 1, 24), x -> x.copy(0, 25, 1, 0, 0), x -> x.copy(0, 0, 1, 0, -1), x -> x.would(5, 0),
        x -> x.writer(5, 0), x -> x.writer(0, 24)};

    /** Not parallel, with a run behind it, a text, a row of another form and one that is missing. */
    private static Scene ready() {
        Scene s = full();
        s.row(0, 1, 24, 1, 2, 3).row(4, 2, 24);
        s.x.lose(5);
        Check.due("parallel", s.x.count(4), 0);
        s.x.mixed(3, 2, 33, 1);
        s.type("tim");
        return s;
    }

    private static void nothingChanged() {
        Check.sentence("They change nothing");
        for (int n = 0; n < REFUSED.length; n++) {
            Scene s = ready();
            s.x.row(0, 1, -1);
            long before = s.x.digest();
            int undone = s.x.count(2);
            long answer = REFUSED[n].applyAsLong(s.x);
            Check.holds("refusal " + n + " is one", answer == BAD || answer == NOT || answer == MIN || answer == Long.MIN_VALUE + 2);
            unchanged(s, "refusal " + n, before, undone);
            Check.due("refusal " + n + " is no finding: count(8)", s.x.count(8), 5);
        }
    }

    private static void fullChangesNothing() {
        Check.sentence("NOT -3 (as told), FULL -4, other FINDINGS. They change nothing");
        Scene s = full();
        s.type("times");
        long before = s.x.digest();
        int undone = s.x.count(2);
        Check.due("type()", s.x.type('s'), FULL);
        Check.due("statement()", s.x.statement(1), FULL);
        Check.due("digest()", s.x.digest(), before);
        Check.due("count(2)", s.x.count(2), undone);
        Check.due("count(8)", s.x.count(8), 0);
        s.x.undo();
        while (s.x.count(1) == 5) {
            s.x.undo();
        }
        Check.due("the text is as it was", s.x.statement(1), 4);
        Check.due("its operation", s.x.info(4, 0), 12);
    }

    private static void findingsChangeTheirNumber() {
        Check.sentence("They change nothing (FINDINGS but count() 8).");
        for (int n = 0; n < FOUND.length; n++) {
            Scene s = ready();
            long before = s.x.digest();
            int undone = s.x.count(2);
            Check.due("no finding yet", s.x.count(8), 0);
            long answer = FOUND[n].applyAsLong(s.x);
            int due = -10 - NUMBERS[n];
            Check.due("finding " + n, answer, answer < MIN ? Scene.refused(due) : due);
            unchanged(s, "finding " + n, before, undone);
            Check.due("finding " + n + ": count(8)", s.x.count(8), NUMBERS[n]);
        }
    }

    private static void unchanged(Scene s, String what, long before, int undone) {
        Check.due(what + ": digest()", s.x.digest(), before);
        Check.due(what + ": count(2)", s.x.count(2), undone);
        s.type("es");
        Check.due(what + ": the text is full", s.x.type('s'), FULL);
        s.x.undo();
        while (s.x.count(1) == 5) {
            s.x.undo();
        }
        Check.due(what + ": it is a name", s.x.statement(1), 4);
        Check.due(what + ": its operation", s.x.info(4, 0), 12);
    }

    private static void notAndFullAreNoFindings() {
        Check.sentence("(FINDINGS but count() 8)");
        Scene s = full();
        s.x.type(256);
        s.x.statement(3);
        s.x.mixed(1, 0, 0, 0);
        s.x.row(0, 4, 3);
        s.x.would(0, 0);
        s.type("maxim");
        s.x.type('a');
        Check.due("BAD, NOT and FULL are none", s.x.count(8), 0);
        s.x.get(0, 3);
        Check.due("INDEX is one", s.x.count(8), 2);
        s.x.get(6, 3);
        s.x.type('a');
        s.x.statement(1);
        Check.due("BAD, NOT and FULL leave it", s.x.count(8), 2);
    }

    private static void leastLong() {
        Check.sentence("Where the answer is a long, a refusal -x is the least long and x more.");
        Scene s = new Scene().row(0, 3, 1);
        Check.due("BAD", s.x.get(-1, 0), -9223372036854775806L);
        Check.due("NULL", s.x.get(1, 0), -9223372036854775797L);
        Check.due("INDEX", s.x.get(0, 1), -9223372036854775796L);
        for (int r : Scene.beyond(0, 5)) {
            Check.due("get(" + r + ", 0)", s.x.get(r, 0), Long.MIN_VALUE + 2);
        }
    }

    private static void leastInts() {
        Check.sentence("BAD: the least int.");
        Scene s = new Scene().turns(1);
        s.state("add", 1);
        s.x.place(0, 0, BAD, 0, 0);
        Check.due("a place that is -2", s.x.section(0, 0, 0), BAD);
        Check.due("reference() of it", s.x.reference(0, 0, 1), BAD);
        Check.due("meet() of it", s.x.meet(0, 0, 0, 0, 0), BAD);
        Check.due("kind() of it", s.x.kind(0, 0, 0, 0), BAD);
        Check.due("section()", s.x.section(1, 0, 0), MIN);
        Check.due("reference()", s.x.reference(0, 0, 4), MIN);
        Check.due("meet()", s.x.meet(0, 0, 1, 0, 0), MIN);
        Check.due("kind()", s.x.kind(0, 0, 1, 0), MIN);
        Check.due("kinds()", s.x.kinds(1, 0), BAD);
    }
}
