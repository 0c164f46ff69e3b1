/** Promises 18 to 21: sections. */
public final class SectionsTest {
    private static final int MIN = Integer.MIN_VALUE, MAX = Integer.MAX_VALUE;

    public static void main(String[] args) {
        section();
        sectionRefused();
        meet();
        meetAll();
        meetRefused();
        kinds();
        kindsOfCopy();
        kindsByTurns();
        kindRefused();
        Check.end();
    }

    private static void parts(Scene s, int e, int i, int first, int stride, int many) {
        int[] due = {first, stride, many};
        for (int part = 0; part < 3; part++) {
            Check.due(18, "section(" + e + ", " + i + ", " + part + ")", s.x.section(e, i, part), due[part]);
        }
    }

    private static void section() {
        Scene s = new Scene().turns(4);
        s.tell("add", 5, Scene.at(0, 3, 2, 4), Scene.at(5, 10, -1, -3), Scene.at(2, -60, 1, 0));
        s.tell("copy", 1, Scene.at(0, 3, 2, 4), Scene.at(0, 7, -6, -6), Scene.at(3, 2, 0, 2));
        parts(s, 0, 0, 3, 4, 5);
        parts(s, 0, 3, 9, 4, 5);
        parts(s, 1, 0, -2, 3, 5);
        parts(s, 1, 2, -4, 3, 5);
        parts(s, 2, 3, -57, 1, 1);
        parts(s, 3, 1, 5, 1, 1);
        parts(s, 4, 3, -11, 1, 1);
        parts(s, 5, 3, 2, 1, 1);
        s.x.guard(0, 2, 1);
        parts(s, 0, 0, 3, 4, 5);
    }

    private static void sectionRefused() {
        Scene s = new Scene().turns(2);
        s.tell("add", 2, Scene.at(0, 0, 0, 1), Scene.constant(3), Scene.at(1, 0, 0, 1));
        int[][] bad = {{1, 0, 0}, {-1, 0, 0}, {3, 0, 0}, {0, -1, 0}, {0, 2, 0}, {0, 0, -1}, {0, 0, 3}, {MIN, 0, 0},
            {MAX, 0, 0}, {0, MAX, 0}, {0, MIN, 0}, {0, 0, MIN}, {-3, 0, 0}};
        for (int[] b : bad) {
            Check.due(18, "section(" + b[0] + ", " + b[1] + ", " + b[2] + ")", s.x.section(b[0], b[1], b[2]), MIN);
        }
        s.turns(0);
        Check.due(18, "no turns", s.x.section(0, 0, 0), MIN);
        Check.due(18, "no statements", new Scene().turns(2).x.section(0, 0, 0), MIN);
    }

    private static void meets(Scene s, int e, int i, int g, int h, int... due) {
        for (int part = 0; part < 4; part++) {
            String call = "meet(" + e + ", " + i + ", " + g + ", " + h + ", " + part + ")";
            Check.due(19, call, s.x.meet(e, i, g, h, part), due[part]);
        }
    }

    private static void meet() {
        Scene s = new Scene().turns(8);
        s.tell("add", 5, Scene.at(0, 0, 1, 2), Scene.at(1, 0, 1, 3), Scene.at(2, 12, -1, -6));
        s.tell("sub", 3, Scene.at(3, 4, 0, 0), Scene.at(1, 30, 1, 3), Scene.constant(4));
        meets(s, 0, 0, 1, 0, 0, 6, 2, 3);      // 0 2 4 6 8 with 0 3 6 9 12
        meets(s, 0, 1, 1, 0, 3, 6, 2, 3);      // 1 3 5 7 9 with 0 3 6 9 12
        meets(s, 0, 0, 0, 2, 2, 2, 4, 1);      // 0 2 4 6 8 with 2 4 6 8 10
        meets(s, 0, 2, 0, 0, 2, 2, 4, 1);
        meets(s, 0, 0, 0, 1, 0, 1, 0, 5);      // 0 2 4 6 8 with 1 3 5 7 9
        meets(s, 1, 0, 2, 0, 0, 6, 3, 2);      // 0 3 6 9 12 with 12 6 0 -6 -12
        meets(s, 2, 0, 1, 0, 0, 6, 3, 2);
        meets(s, 1, 0, 3, 0, 0, 1, 0, 5);      // 0 3 6 9 12 with 4
        meets(s, 3, 7, 0, 0, 4, 1, 1, 0);      // 4 with 0 2 4 6 8
        meets(s, 0, 0, 3, 7, 4, 1, 1, 4);
        meets(s, 2, 7, 2, 7, -19, 6, 5, 0);
    }

    private static void meetAll() {
        // every two sections that start near each other, against places looked at one by one
        for (int a = -6; a <= 6; a++) {
            for (int b = -6; b <= 6; b++) {
                Scene s = new Scene().turns(1);
                s.tell("add", 4, Scene.at(0, 0, 0, 0), Scene.at(1, 0, 0, 0), Scene.constant(0));
                for (int from = -5; from <= 5; from++) {
                    s.x.place(0, 0, 0, 0, a);
                    s.x.place(0, 1, from, 0, b);
                    int[] due = met(a, from, b);
                    for (int part = 0; part < 4; part++) {
                        Check.due(19, a + " with " + from + " by " + b + ", part " + part, s.x.meet(0, 0, 1, 0, part), due[part]);
                    }
                    if (from == 0 && a == b) {
                        break;
                    }
                }
            }
        }
    }

    private static int[] met(int a, int from, int b) {
        int first = 0;
        int second = 0;
        int many = 0;
        for (int place = -40; place <= 40; place++) {
            if (isIn(place, 0, a) && isIn(place, from, b)) {
                first = many == 0 ? place : first;
                second = many == 1 ? place : second;
                many++;
            }
        }
        return new int[] {first, many < 2 ? 1 : second - first, many, (a == 0 ? 1 : 4) - many};
    }

    private static boolean isIn(int place, int from, int step) {
        for (int j = 0; j < 4; j++) {
            if (from + step * j == place) {
                return true;
            }
        }
        return false;
    }

    private static void meetRefused() {
        Scene s = new Scene().turns(3);
        s.tell("add", 2, Scene.at(0, 0, 0, 1), Scene.at(1, 0, 0, 1), Scene.constant(3));
        int[][] bad = {{2, 0, 0, 0, 0}, {0, 0, 2, 0, 0}, {-1, 0, 0, 0, 0}, {3, 0, 0, 0, 0}, {0, 0, 3, 0, 0},
            {0, -1, 0, 0, 0}, {0, 3, 0, 0, 0}, {0, 0, 0, -1, 0}, {0, 0, 0, 3, 0}, {0, 0, 0, 0, -1}, {0, 0, 0, 0, 4},
            {MAX, 0, 0, 0, 0}, {0, MIN, 0, 0, 0}, {0, 0, MIN, 0, 0}, {0, 0, 0, MAX, 0}, {0, 0, 0, 0, MAX}};
        for (int[] b : bad) {
            Check.due(19, "a bad meet", s.x.meet(b[0], b[1], b[2], b[3], b[4]), MIN);
        }
        Check.due(19, "a good one", s.x.meet(0, 2, 1, 2, 3), 0);
    }

    private static void kind(Scene s, int k, int r, int n, int... due) {
        for (int part = 0; part < 4; part++) {
            Check.due(21, "kind(" + k + ", " + r + ", " + n + ", " + part + ")", s.x.kind(k, r, n, part), due[part]);
        }
    }

    private static void kinds() {
        Scene s = new Scene().turns(3);
        // left, right, target in turn 0: 4 5, then 5 4, then 0 1; each goes on by 0, 0, 2
        s.tell("add", 2, Scene.at(0, 0, 2, 1), Scene.at(0, 4, 0, 1), Scene.at(0, 5, 0, -1));
        Check.due(20, "kinds(0, 0)", s.x.kinds(0, 0), 3);
        Check.due(20, "kinds(0, 1)", s.x.kinds(0, 1), 0);
        kind(s, 0, 0, 0, 4, 1, 2, 7);
        kind(s, 0, 0, 1, 0, 1, 2, 1);
        kind(s, 0, 0, 2, 2, 1, 2, 1);
        s.x.refer(0, Scene.RIGHT, 3);
        kind(s, 0, 0, 0, 4, 1, 2, 4);
        kind(s, 0, 3, 0, 4, 1, 2, 3);
        s.x.guard(0, 2, 1);
        Check.due(20, "in one turn", s.x.kinds(0, 0), 2);
        kind(s, 0, 0, 1, 2, 1, 2, 1);
        s.x.guard(0, 5, 4);
        Check.due(20, "in no turn", s.x.kinds(0, 0), 0);
        s.turns(0);
        Check.due(20, "without turns", s.x.kinds(0, 0), 0);
    }

    private static void kindsOfCopy() {
        Scene s = new Scene().turns(2);
        s.tell("copy", 1, Scene.at(1, 0, 1, 0), Scene.at(2, 0, 0, 0), Scene.at(3, 1, 1, 1));
        Check.due(20, "right of a copy", s.x.kinds(0, 3), 0);
        Check.due(20, "left of a copy", s.x.kinds(0, 2), 1);
        Check.due(20, "target of a copy", s.x.kinds(0, 1), 2);
        s.tell("pick", 1, Scene.at(1, 0, 1, 0), Scene.at(2, 0, 0, 0), Scene.at(3, 1, 1, 1));
        Check.due(20, "right of a pick", s.x.kinds(1, 3), 2);
    }

    private static void kindsByTurns() {
        Scene s = new Scene().turns(10);
        s.tell("add", 2, Scene.at(0, 0, 1, 1), Scene.at(0, 20, 1, 2), Scene.at(0, 40, 1, 3));
        Check.due(20, "as many as there may be", s.x.kinds(0, 0), 30);
        kind(s, 0, 0, 0, 20, 2, 2, 1);
        kind(s, 0, 0, 1, 40, 3, 2, 1);
        kind(s, 0, 0, 2, 0, 1, 2, 1);
        kind(s, 0, 0, 29, 9, 1, 2, 1);
        s.row(5, 4, 3, 0, 1, 1);
        s.x.mask(0, 5);
        Check.due(20, "by a mask", s.x.kinds(0, 0), 6);
        kind(s, 0, 0, 0, 21, 2, 2, 1);
        kind(s, 0, 0, 5, 2, 1, 2, 1);
    }

    private static void kindRefused() {
        Scene s = new Scene().turns(2);
        s.tell("add", 1, Scene.at(0, 0, 0, 0), Scene.at(0, 1, 0, 0), Scene.constant(0));
        int[][] bad = {{1, 0, 0, 0}, {-1, 0, 0, 0}, {0, -1, 0, 0}, {0, 6, 0, 0}, {0, 0, -1, 0}, {0, 0, 2, 0},
            {0, 0, 0, -1}, {0, 0, 0, 4}, {0, 1, 0, 0}, {MAX, 0, 0, 0}, {0, MIN, 0, 0}, {0, 0, MAX, 0}, {0, 0, 0, MIN}};
        for (int[] b : bad) {
            Check.due(21, "a bad kind", s.x.kind(b[0], b[1], b[2], b[3]), MIN);
        }
        int[][] badKinds = {{1, 0}, {-1, 0}, {0, -1}, {0, 6}, {MIN, 0}, {0, MAX}};
        for (int[] b : badKinds) {
            Check.due(20, "kinds(" + b[0] + ", " + b[1] + ")", s.x.kinds(b[0], b[1]), -2);
        }
        Check.due(21, "a good one", s.x.kind(0, 0, 1, 0), 0);
    }
}
