import java.util.List;

/** The boundary cases of walks, strips, the best plan, draws; promises 20 to 31, 37, 38. */
final class EdgesOfWalks {
    private static final int NONE = Due.NONE;
    private static final int STRANGE = Due.STRANGE;
    private static final Due.Maker NEW = RowWalks::new;

    private static final String UP_DOWN = "column a 1 gain 1;column b -1 gain 2;steps 12;";
    /** Of any two of them together one row is 10 or -10; all four together are nothing. */
    private static final String WIDE = "rows 3;column a 5 5 5 gain 1;column b 5 -5 -5 gain 1;column c -5 5 -5 gain 1;"
        + "column d -5 -5 5 gain 1;";

    private EdgesOfWalks() {
    }

    private static String ofNothing(int columns, int gainOfFirst, int more) {
        StringBuilder b = new StringBuilder();
        for (int i = 0; i < columns; i++) {
            b.append("column ").append((char) ('a' + i)).append(" 0 gain ").append(gainOfFirst + more * i).append(';');
        }
        return b.append("steps 12;").toString();
    }

    /** A text of three rows in one of which alone something is. */
    private static String inRow(int row, String numbers, String need) {
        String zeros = "0 0 0";
        StringBuilder b = new StringBuilder("rows 3;");
        char name = 'a';
        for (String v : numbers.split(" ")) {
            b.append("column ").append(name++).append(' ').append(put(zeros, row, v)).append(" gain 1;");
        }
        return b.append("need ").append(put(zeros, row, need)).append(';').toString();
    }

    private static String put(String zeros, int row, String v) {
        String[] all = zeros.split(" ");
        all[row] = v;
        return String.join(" ", all);
    }

    static void strip() {
        Due.sentence(20, "By T (0 .. 12), w (0 .. 12) what 0: 1 if a WALK of T STEPS LEADS within the STRIP, else 0, "
            + "1: how many STATES there are.");
        RowWalks x = Told.of(UP_DOWN);
        Due.is("strip(0, 0, 0)", x.strip(0, 0, 0), 1);
        Due.is("strip(0, 12, 0)", x.strip(0, 12, 0), 1);
        Due.is("strip(0, 12, 1)", x.strip(0, 12, 1), 1);
        Due.is("strip(12, 0, 0)", x.strip(12, 0, 0), 0);
        Due.is("strip(12, 0, 1)", x.strip(12, 0, 1), 1);
        Due.is("strip(12, 1, 0)", x.strip(12, 1, 0), 1);
        Due.is("strip(12, 12, 0)", x.strip(12, 12, 0), 1);
        Due.is("strip(12, 12, 1)", x.strip(12, 12, 1), 91);
        Due.is("strip(12, 11, 1), without 12 and -12", x.strip(12, 11, 1), 89);
        Due.is("strip(11, 12, 0)", x.strip(11, 12, 0), 0);
        x.want(0, 1);
        Due.is("strip(0, 12, 0) of a need", x.strip(0, 12, 0), 0);
        Due.is("strip(0, 12, 1) of a need", x.strip(0, 12, 1), 1);
        Due.is("strip(1, 1, 0) of a need", x.strip(1, 1, 0), 1);
        Due.is("strip(0, 0, 0) of a need behind one that leads", x.strip(0, 0, 0), 0);
        Due.is("strip(1, 0, 0) along the line", Told.of("column a 5 gain 1;need 5;").strip(1, 0, 0), 1);
        Due.is("strip(1, 1, 1) of 4 to 5", Told.of("column a 4 gain 1;need 5;").strip(1, 1, 1), 2);
        Due.is("strip(1, 1, 1) of 3 to 5", Told.of("column a 3 gain 1;need 5;").strip(1, 1, 1), 1);
        Due.is("strip(0, 12, 0) of -1", Told.of("need -1;").strip(0, 12, 0), 0);

        Due.sentence(20, "NONE if one can't be, or for another what.");
        Due.refusedBeside(0, 12, "strip of t", NONE, (y, v) -> y.strip(v, 1, 0));
        Due.refusedBeside(0, 12, "strip of w", NONE, (y, v) -> y.strip(1, v, 0));
        Due.refusedBeside(0, 1, "strip what", NONE, (y, v) -> y.strip(1, 1, v));

        Due.sentence(Due.TERMS, "it is within a STRIP w, if that is no more than w times T.");
        x = Told.of("column a 3 gain 1;column b -3 gain 1;");
        Due.is("strip(2, 3, 0): 6 is no more than 6", x.strip(2, 3, 0), 1);
        Due.is("strip(2, 2, 0): 6 is more than 4", x.strip(2, 2, 0), 0);
        x = Told.of("column a 3 gain 1;column b -2 gain 1;need 1;");
        Due.is("strip(2, 3, 0): 5 is no more than 6", x.strip(2, 3, 0), 1);
        Due.is("strip(2, 2, 0): 5 is more than 4", x.strip(2, 2, 0), 0);

        Due.sentence(Due.TERMS, "STATES by T, w: all pairs of k (0 .. T) and a SUM that a WALK of k STEPS has, each of whose "
            + "SUMS behind j STEPS (0 .. k), times T, less j times NEED, is no more than w times T without sign in any row.");
        states();
    }

    private static void states() {
        int[] within = {1, 1, 2, 3};
        for (int row = 0; row < 3; row++) {
            RowWalks more = Told.of(inRow(row, "0", "3"));
            RowWalks less = Told.of(inRow(row, "0", "-3"));
            RowWalks both = Told.of(inRow(row, "1 -1", "0"));
            for (int w = 0; w <= 3; w++) {
                Due.is("states below the line", more.strip(2, w, 1), within[w]);
                Due.is("states above the line", less.strip(2, w, 1), within[w]);
            }
            Due.is("states of one up, one down, w 12", both.strip(12, 12, 1), 91);
            Due.is("states of one up, one down, w 11", both.strip(12, 11, 1), 89);
            Due.is("states of one up, one down, w 1", both.strip(12, 1, 1), 1 + 6 * 3);
        }
        for (int row = 0; row < 3; row++) {
            RowWalks x = Told.of(inRow(row, "1 5 -2", "3"));
            Due.is("strip(3, 0, 0) along the line", x.strip(3, 0, 0), 1);
            Due.is("walks(3, 0) along the line", x.walks(3, 0), 1);
            Due.is("walks(2, 12) of 5 and -2", x.walks(2, 12), 2);
            Due.is("step(2, 12, 0)", x.step(2, 12, 0), 1);
            Due.is("step(2, 12, 1)", x.step(2, 12, 1), 2);
        }
        RowWalks x = Told.of("rows 2;column a 1 0 gain 1;column b -1 0 gain 1;column c 0 1 gain 1;column d 0 -1 gain 1;"
            + "column e 0 0 gain 1;");
        int squares = 0;
        for (int k = 0; k <= 12; k++) {
            squares += 2 * k * k + 2 * k + 1;
        }
        Due.is("all sums of up to 12 steps in two rows", x.strip(12, 12, 1), squares);
        x = Told.of("rows 3;column a 1 1 1 gain 1;column b -1 -1 -1 gain 1;");
        Due.is("states in all rows, w 12", x.strip(12, 12, 1), 91);
        x = Told.of("column a 5 gain 1;column b -4 gain 1;");
        Due.is("1 is near, but not the way there", x.strip(2, 1, 1), 1);
        Due.is("w 4: by -4", x.strip(2, 4, 1), 3);
        Due.is("w 5: by both", x.strip(2, 5, 1), 4);
        Due.is("one sum by two walks", Told.of("column a 1 gain 1;column b 1 gain 2;need 2;").strip(2, 0, 1), 3);
        Due.is("one sum behind each k", Told.of("column a 0 gain 1;").strip(12, 12, 1), 13);
        Due.is("no columns", new RowWalks().strip(12, 12, 1), 1);
        x = Told.of("rows 3;column a 1 0 0 gain 1;column b -1 0 0 gain 1;column c 0 1 0 gain 1;column d 0 -1 0 gain 1;"
            + "column e 0 0 1 gain 1;column f 0 0 -1 gain 1;column g 0 0 0 gain 1;");
        int octahedra = 0;
        for (int k = 0; k <= 12; k++) {
            octahedra += (2 * k + 1) * (2 * k * k + 2 * k + 3) / 3;
        }
        Due.is("all sums of up to 12 steps in three rows", x.strip(12, 12, 1), octahedra);
        Due.is("without the six tips", x.strip(12, 11, 1), octahedra - 6);
    }

    static void walks() {
        Due.sentence(21, "How many WALKS of T STEPS LEAD within a STRIP; -1 if one can't be.");
        RowWalks x = Told.of(ofNothing(8, 0, 1));
        Due.is("walks(0, 0)", x.walks(0, 0), 1);
        Due.is("walks(1, 0)", x.walks(1, 0), 8);
        Due.is("walks(10, 12), the last below 2 to the power of 31", x.walks(10, 12), 1L << 30);
        Due.is("walks(11, 12)", x.walks(11, 12), 1L << 33);
        Due.is("walks(12, 12)", x.walks(12, 12), 1L << 36);
        x = Told.of(UP_DOWN);
        Due.is("walks(12, 12)", x.walks(12, 12), 924);
        Due.is("walks(12, 6)", x.walks(12, 6), 924);
        Due.is("walks(12, 5), without the two that go to 6 and -6", x.walks(12, 5), 922);
        Due.is("walks(12, 1)", x.walks(12, 1), 64);
        Due.is("walks(12, 0)", x.walks(12, 0), 0);
        Due.is("walks(11, 12)", x.walks(11, 12), 0);
        Due.is("walks(0, 0) of no columns", new RowWalks().walks(0, 0), 1);
        Due.is("walks(1, 12) of no columns", new RowWalks().walks(1, 12), 0);
        Due.refusedBeside(0, 12, "walks of t", -1, (y, v) -> y.walks(v, 1));
        Due.refusedBeside(0, 12, "walks of w", -1, (y, v) -> y.walks(1, v));
    }

    static void best() {
        Due.sentence(22, "The greatest GAIN of one; STRANGE if none LEADS, or one can't be.");
        Due.is("best(12, 0), the most", Told.of("column a 0 gain 99;").best(12, 0), 1188);
        RowWalks x = Told.of("column a 0 gain -99;");
        Due.is("best(12, 12), the least", x.best(12, 12), -1188);
        Due.is("best(0, 0)", x.best(0, 0), 0);
        x.worth(0, -1);
        Due.is("best(1, 0) of -1", x.best(1, 0), -1);
        x = Told.of("column a 0 gain 5;");
        for (int t : new int[] {2, 4, 2, 1, 12, 0, 1}) {
            Due.is("best(" + t + ", 0) behind others", x.best(t, 0), 5 * t);
        }
        Due.is("best(12, 0) of eight", Told.of(ofNothing(8, -3, 1)).best(12, 0), 48);
        x = Told.of(UP_DOWN);
        Due.is("best(12, 1)", x.best(12, 1), 18);
        Due.is("best(12, 0) of none", x.best(12, 0), STRANGE);
        Due.is("best(11, 12) of none", x.best(11, 12), STRANGE);
        Due.is("best(0, 12) of a need", Told.of("column a 1 gain 1;need 1;").best(0, 12), STRANGE);
        Due.refusedBeside(0, 12, "best of t", STRANGE, (y, v) -> y.best(v, 1));
        Due.refusedBeside(0, 12, "best of w", STRANGE, (y, v) -> y.best(1, v));
    }

    private static void stepsAre(RowWalks x, int w, int... walk) {
        int t = walk.length;
        for (int i = 0; i < t; i++) {
            Due.is("step(" + t + ", " + w + ", " + i + ")", x.step(t, w, i), walk[i]);
        }
        Due.is("step(t, w, t)", x.step(t, w, t), NONE);
        Due.is("step(t, w, -1)", x.step(t, w, -1), NONE);
    }

    static void step() {
        Due.sentence(23, "The i-th COLUMN (0 ..) of a WALK with that GAIN, of like ones the first, COLUMN by COLUMN the least");
        RowWalks x = Told.of(UP_DOWN);
        stepsAre(x, 12);
        stepsAre(x, 1, 0, 1);
        stepsAre(x, 1, 0, 1, 0, 1);
        stepsAre(x, 2, 0, 0, 1, 1);
        stepsAre(x, 12, 0, 0, 0, 0, 0, 0, 1, 1, 1, 1, 1, 1);
        stepsAre(x, 5, 0, 0, 0, 0, 0, 1, 0, 1, 1, 1, 1, 1);
        stepsAre(Told.of(ofNothing(8, 0, 0)), 0, 0, 0, 0, 0, 0, 0, 0, 0, 0, 0, 0, 0);
        stepsAre(Told.of(ofNothing(8, 0, 1)), 0, 7, 7, 7, 7, 7, 7, 7, 7, 7, 7, 7, 7);
        // a, c together are b twice; of like gains the first, of other gains the greater
        String three = "column a 1 gain 4;column b 2 gain 4;column c 3 gain 4;need 4;";
        x = Told.of(three);
        stepsAre(x, 12, 0, 2);
        x.worth(1, 5);
        stepsAre(x, 12, 1, 1);

        stepsAre(Told.of("column a 1 gain 1;need 1;"), 0, 0);
        longest();

        Due.sentence(23, "NONE if there is none such.");
        Due.refusedBeside(0, 1, "step i", NONE, (y, v) -> y.step(2, 12, v));
        Due.refusedBeside(0, 12, "step of t", NONE, (y, v) -> y.step(v, 12, 0));
        Due.refusedBeside(0, 12, "step of w", NONE, (y, v) -> y.step(2, v, 0));
        Due.is("step(2, 12, 0), by which the others are refused", Due.busy().step(2, 12, 0), 2);
        Due.is("step(3, 12, 0) of none", Told.of(UP_DOWN).step(3, 12, 0), NONE);
        Due.refused(NEW, "step(0, 0, 0)", NONE, y -> y.step(0, 0, 0));
        Due.refused(NEW, "step(1, 0, 0) of no columns", NONE, y -> y.step(1, 0, 0));
    }

    /** Twelve steps of eight columns of three rows in the widest strip, by the plain second form of the document. */
    private static void longest() {
        int[][] columns = {{2, 1, -1}, {-1, 2, 1}, {1, -1, 2}, {-2, 0, 0}, {0, -2, 0}, {0, 0, -2}, {1, 1, 1}, {0, 0, 1}};
        Naive.State s = new Naive.State();
        s.rows = 3;
        s.need = new int[] {3, -2, 4};
        for (int i = 0; i < 8; i++) {
            s.columns.add(columns[i]);
            s.gains.add(i % 3);
            s.held.add(0);
        }
        Naive y = new Naive();
        y.load(s);
        RowWalks x = Told.of(Naive.textOf(s));
        Due.is("best(12, 12) of eight columns", x.best(12, 12), y.best(12, 12));
        for (int i = 0; i < 12; i++) {
            Due.is("step(12, 12, " + i + ") of eight columns", x.step(12, 12, i), y.step(12, 12, i));
            Due.is("step(12, 2, " + i + ") of eight columns", x.step(12, 2, i), y.step(12, 2, i));
        }
        Due.is("walks(12, 12) of eight columns", x.walks(12, 12), y.walks(12, 12));
        everyStrip();
    }

    /** One row that is full of sums behind most steps: every length in every strip. */
    private static void everyStrip() {
        int[] numbers = {5, -5, 1, -1, 0, 3, -3, 2};
        int[] gains = {9, 7, -4, 3, -2, 8, 8, 1};
        Naive.State s = new Naive.State();
        s.need = new int[] {-1};
        for (int i = 0; i < 8; i++) {
            s.columns.add(new int[] {numbers[i]});
            s.gains.add(gains[i]);
            s.held.add(0);
        }
        Naive y = new Naive();
        y.load(s);
        for (int t = 0; t <= 12; t++) {
            RowWalks x = Told.of(Naive.textOf(s));
            for (int w = 0; w <= 12; w++) {
                String call = "(" + t + ", " + w;
                Due.is("strip" + call + ", 1)", x.strip(t, w, 1), y.strip(t, w, 1));
                List<Integer> walk = y.bestWalk(t, w);
                for (int i = 0; i < t; i++) {
                    Due.is("step" + call + ", " + i + ")", x.step(t, w, i), walk.isEmpty() ? NONE : walk.get(i + 1));
                }
            }
        }
    }

    static void narrow() {
        Due.sentence(24, "The least w (0 .. 12) by which a WALK of T STEPS LEADS; NONE if by none, or T can't be.");
        Due.is("narrow(0) of no need", new RowWalks().narrow(0), 0);
        Due.is("narrow(12) along the line", Told.of("column a 0 gain 1;").narrow(12), 0);
        RowWalks x = Told.of(UP_DOWN);
        Due.is("narrow(2)", x.narrow(2), 1);
        Due.is("narrow(12)", x.narrow(12), 1);
        Due.is("narrow(11) of none", x.narrow(11), NONE);
        Due.is("narrow(2) of 3, -2 to 1: 5 of 2", Told.of("column a 3 gain 1;column b -2 gain 1;need 1;").narrow(2), 3);
        // a hill climb over millions of columns found none that need more than 10
        x = Told.of(WIDE);
        Due.is("narrow(4)", x.narrow(4), 10);
        Due.is("strip(4, 9, 0)", x.strip(4, 9, 0), 0);
        Due.is("narrow(8)", x.narrow(8), 10);
        Due.is("narrow(12)", x.narrow(12), 10);
        Due.is("narrow(0) of a need", Told.of("column a 1 gain 1;need 1;").narrow(0), NONE);
        Due.is("narrow(12) of 12", Told.of("column a 1 gain 1;need 12;").narrow(12), 0);
        x = Told.of("column a 1 gain 1;need 13;");
        Due.is("narrow(13), by which one leads", x.narrow(13), NONE);
        Due.is("narrow(-1)", x.narrow(-1), NONE);
        Due.refusedBeside(0, 12, "narrow", NONE, RowWalks::narrow);

        Due.sentence(25, "The least T (0 .. 12) by which a WALK LEADS, however it STRAYS; NONE if there is none.");
        Due.is("fewest() of no need", Told.of(UP_DOWN).fewest(), 0);
        Due.is("fewest() of 1", Told.of("column a 1 gain 1;need 1;").fewest(), 1);
        Due.is("fewest() of 12, more than are told", Told.of("column a 1 gain 1;need 12;steps 1;").fewest(), 12);
        Due.is("fewest() of 13", Told.of("column a 1 gain 1;need 13;steps 12;").fewest(), NONE);
        Due.is("fewest() of a need without columns", Told.of("need 1;").fewest(), NONE);
        Due.is("fewest() that strays by 10", Told.of("rows 3;column a -5 -5 5 gain 1;column b 5 -4 -5 gain 1;"
            + "column c 5 5 5 gain 1;column d -5 5 -5 gain 1;need 0 2 0;").fewest(), 8);
        Due.is("fewest(), not the first that is found", Told.of("column a 1 gain 9;column b 2 gain 1;need 6;").fewest(), 3);
    }

    private static void optimumIs(String text, int gain, int steps, int... plan) {
        RowWalks x = Told.of(text);
        Due.is("optimum(0) of " + text, x.optimum(0), gain);
        Due.is("optimum(1) of " + text, x.optimum(1), steps);
        for (int column = 0; column < plan.length; column++) {
            Due.is("plan(" + column + ") of " + text, x.plan(column), plan[column]);
        }
    }

    static void optimum() {
        Due.sentence(Due.TERMS, "The OPTIMUM: of all WALKS that LEAD, of as many STEPS as are told by steps at most (0, too), "
            + "the greatest GAIN");
        optimumIs("", 0, 0);
        optimumIs("column a 0 gain -1;", 0, 0, 0);
        optimumIs("column a 0 gain 99;steps 12;", 1188, 12, 12);
        optimumIs("column a 0 gain 99;steps 1;", 99, 1, 1);
        optimumIs("column a 0 gain 99;", 792, 8, 8);
        optimumIs("column a 1 gain -99;need 12;steps 12;", -1188, 12, 12);
        optimumIs("column a 1 gain -99;need 12;steps 11;", STRANGE, STRANGE, NONE);
        optimumIs("column a 1 gain 1;need 2;steps 2;", 2, 2, 2);
        optimumIs("column a 1 gain 1;need 2;steps 1;", STRANGE, STRANGE, NONE);
        optimumIs("column a 1 gain -1;need 1;steps 1;", -1, 1, 1);
        optimumIs("need 1;", STRANGE, STRANGE);
        RowWalks x = Told.of("column a 1 gain 1;need 3;steps 2;");
        x.allow(3);
        Due.is("optimum(1) of steps that became others", x.optimum(1), 3);
        x.undo();
        Due.is("optimum(1) behind undo()", x.optimum(1), STRANGE);

        Due.sentence(Due.TERMS, "its PLAN: of these that of the fewest STEPS, of these the FIRST.");
        optimumIs("column a 1 gain 1;column b 2 gain 2;need 2;", 2, 1, 0, 1);
        optimumIs("column a 0 gain 0;", 0, 0, 0);
        optimumIs("column a 1 gain 1;column b 1 gain 1;need 2;", 2, 2, 2, 0);
        optimumIs("column a 1 gain 0;column b 2 gain 0;column c 3 gain 0;need 4;", 0, 2, 1, 0, 1);
        Due.sentence(Due.TERMS, "Of PLANS of as many STEPS the FIRST has most of COLUMN 0, of these most of COLUMN 1, and so on.");
        optimumIs("column x 5 gain 0;column a 1 gain 0;column b 2 gain 0;column c 3 gain 0;need 9;", 0, 3, 1, 1, 0, 1);
        optimumIs("column a 5 gain 0;column b 5 gain 0;column c 2 gain 0;column d 2 gain 0;need 14;", 0, 4, 2, 0, 2, 0);

        Due.sentence(26, "STRANGE if there is none, or for another what.");
        Due.refusedBeside(0, 1, "optimum", STRANGE, RowWalks::optimum);

        Due.sentence(27, "How often a COLUMN is in its PLAN; NONE if there is none such.");
        x = Told.of(ofNothing(8, 0, 1));
        Due.is("plan(0)", x.plan(0), 0);
        Due.is("plan(7)", x.plan(7), 12);
        Due.is("plan(8) of eight", x.plan(8), NONE);
        Due.is("plan(0) of no optimum", Told.of("column a 1 gain 1;need 9;").plan(0), NONE);
        Due.refusedBeside(0, 2, "plan", NONE, RowWalks::plan);
        Due.refused(NEW, "plan(0) of no columns", NONE, y -> y.plan(0));

        Due.sentence(28, "How many PLANS of T STEPS (0 .. 12) LEAD; NONE if T can't be.");
        Due.is("plans(0)", x.plans(0), 1);
        Due.is("plans(1)", x.plans(1), 8);
        Due.is("plans(12), all that there can be", x.plans(12), 50388);
        Due.is("plans(12), more than are told by steps", Told.of("column a 1 gain 1;need 12;steps 1;").plans(12), 1);
        Due.is("plans(0) of a need", Told.of("column a 1 gain 1;need 12;").plans(0), 0);
        Due.is("plans(0) of no columns", new RowWalks().plans(0), 1);
        Due.is("plans(1) of no columns", new RowWalks().plans(1), 0);
        Due.is("plans(0) of no columns and a need", Told.of("need 1;").plans(0), 0);
        Due.is("plans(0) of no columns and a need in row 1", Told.of("rows 2;need 0 1;").plans(0), 0);
        Due.is("plans(0) of no columns and a need in row 2", Told.of("rows 3;need 0 0 1;").plans(0), 0);
        Due.is("plans(13), by which one leads", Told.of("column a 1 gain 1;need 13;").plans(13), NONE);
        Due.refusedBeside(0, 12, "plans", NONE, RowWalks::plans);
    }

    private static void orderIs(String text, int strays, int sorted, int... walk) {
        RowWalks x = Told.of(text);
        Due.is("steps of " + text, x.optimum(1), walk.length);
        for (int i = 0; i < walk.length; i++) {
            Due.is("order(" + i + ") of " + text, x.order(i), walk[i]);
        }
        Due.is("order(steps) of " + text, x.order(walk.length), NONE);
        Due.is("order(-1) of " + text, x.order(-1), NONE);
        Due.is("strays() of " + text, x.strays(), strays);
        Due.is("sorted() of " + text, x.sorted(), sorted);
    }

    static void order() {
        Due.sentence(Due.TERMS, "Its ORDER: of all WALKS of that PLAN the one that STRAYS least, of these the first, "
            + "COLUMN by COLUMN the least.");
        orderIs("", 0, 0);
        orderIs("column a 5 gain 1;need 5;", 0, 0, 0);
        orderIs("column a 1 gain 1;column b -1 gain 1;steps 4;", 4, 8, 0, 1, 0, 1);
        orderIs("column a 5 gain 1;column b -5 gain 1;steps 12;", 60, 360, 0, 1, 0, 1, 0, 1, 0, 1, 0, 1, 0, 1);
        // b first strays by 4 of 2, a first by 4, too
        orderIs("column a 3 gain 1;column b -1 gain 1;need 2;steps 2;", 4, 4, 0, 1);
        // 1, 3 and -3 in front stray by 9; 1, -2 and 2, -1 by 6
        orderIs("column a 1 gain 9;column b 2 gain 9;column c -3 gain 9;steps 3;", 6, 9, 0, 2, 1);
        // as many parts as a plan can have: each of eight columns once or twice
        orderIs("rows 3;column a 2 5 3 gain 98;column b 4 2 -1 gain 94;column c 3 -5 -3 gain 58;column d 1 3 2 gain 69;"
            + "column e 3 0 1 gain 65;column f 4 4 -4 gain 56;column g -2 3 -5 gain 91;column h -3 -5 2 gain 50;"
            + "need 18 6 -7;steps 12;", 42, 150, 5, 7, 0, 2, 1, 3, 6, 4, 2, 0, 7, 5);

        RowWalks x = Told.of("column a 5 gain 1;column b -5 gain 1;steps 12;");
        for (int steps : new int[] {12, 2, 6, 4}) {
            x.allow(steps);
            Due.is("strays() of " + steps + " steps behind others", x.strays(), 5 * steps);
            Due.is("sorted() of " + steps + " steps behind others", x.sorted(), 5 * steps * steps / 2);
        }

        Due.sentence(Due.TERMS, "it STRAYS by the greatest of T times SUM less k times NEED, without sign, of any row, behind any k");
        for (int row = 0; row < 3; row++) {
            Due.is("strays() in row " + row, Told.of(inRow(row, "-5 5", "0")).strays(), 40);
            Due.is("sorted() in row " + row + ", below the line", Told.of(inRow(row, "-5 5", "0")).sorted(), 160);
            Due.is("sorted() in row " + row + ", above the line", Told.of(inRow(row, "5 -5", "0")).sorted(), 160);
            Due.is("behind the last step in row " + row, Told.of(inRow(row, "-5", "20")).drawn(0, 12, 0), 12 * 80);
            Due.is("behind the last step in row " + row, Told.of(inRow(row, "5", "-20")).drawn(0, 12, 0), 12 * 80);
        }
        // 5 behind the first step, -1 behind each other
        Due.is("behind the first step", Told.of("column a 5 gain 99;column b -1 gain 0;steps 6;").sorted(), 30);
        Due.is("behind the last but one", Told.of("column a -1 gain 0;column b 5 gain 99;steps 6;").sorted(), 30);

        RowWalks none = Told.of("column a 1 gain 1;need 9;");
        Due.sentence(29, "NONE if there is none such.");
        Due.refusedBeside(0, 1, "order", NONE, RowWalks::order);
        Due.is("order(0) of a busy object", Due.busy().order(0), 2);
        Due.is("order(1) of a busy object", Due.busy().order(1), 2);
        Due.is("order(0) of no optimum", none.order(0), NONE);
        Due.is("order(0) of no steps", Told.of("column a 1 gain -1;").order(0), NONE);

        Due.sentence(30, "By how much that STRAYS; NONE if there is no OPTIMUM.");
        Due.is("strays() of no optimum", none.strays(), NONE);
        Due.is("strays() of no steps", Told.of("column a 1 gain -1;").strays(), 0);
        none.want(0, 8);
        Due.is("strays() of 8 along the line", none.strays(), 0);

        Due.sentence(31, "(all of COLUMN 0 first); NONE likewise.");
        Due.is("sorted() of 8 along the line", none.sorted(), 0);
        none.want(0, 9);
        Due.is("sorted() of no optimum", none.sorted(), NONE);
        Due.is("sorted() of no steps", Told.of("column a 1 gain -1;").sorted(), 0);
        Due.is("sorted(): all of column 0 first", Told.of(UP_DOWN).sorted(), 72);
    }

    /** The draws once more: gain, how far the sum is from a need in one row, by how much they stray. */
    private static long[] draws(long seed, int t, int[] numbers, int[] gains, int need) {
        long gain = 0;
        long sum = 0;
        long stray = 0;
        for (int k = 1; k <= t; k++) {
            seed = (seed * 137 + 71) % 10007;
            int column = (int) (seed % numbers.length);
            gain += gains[column];
            sum += numbers[column];
            stray = Math.max(stray, Math.abs(t * sum - k * need));
        }
        return new long[] {stray, gain, Math.abs(sum - need)};
    }

    static void drawn() {
        Due.sentence(Due.TERMS, "a seed becomes its 137-fold and 71 more, modulo 10,007; modulo how many COLUMNS there are, "
            + "it is the COLUMN of a STEP.");
        RowWalks x = Told.of(ofNothing(8, 0, 1));
        for (int rest : new int[] {0, 1, 7, 8, 10005, 10006}) {
            for (int seed = 0; seed <= 9999; seed++) {
                if ((seed * 137 + 71) % 10007 == rest) {
                    Due.is("the column of seed " + seed, x.drawn(seed, 1, 1), rest % 8);
                }
            }
        }
        Due.sentence(37, "A WALK by DRAWS of a seed (0 .. 9,999), of T STEPS (0 .. 12), what 0: by how much it STRAYS, 1: its GAIN, "
            + "2: of all rows together how far its SUM is from NEED, without signs.");
        int[] numbers = {1, -3, 5, -5, 2, 0, 4, -1};
        int[] gains = {9, 8, 7, -6, 5, 4, 3, 99};
        StringBuilder text = new StringBuilder();
        for (int i = 0; i < 8; i++) {
            text.append("column ").append((char) ('a' + i)).append(' ').append(numbers[i]);
            text.append(" gain ").append(gains[i]).append(';');
        }
        x = Told.of(text + "need -7;");
        for (int seed : new int[] {0, 1, 72, 73, 4999, 9998, 9999}) {
            for (int t = 0; t <= 12; t += 3) {
                long[] due = draws(seed, t, numbers, gains, -7);
                for (int what = 0; what <= 2; what++) {
                    Due.is("drawn(" + seed + ", " + t + ", " + what + ")", x.drawn(seed, t, what), due[what]);
                }
            }
        }

        RowWalks rows = Told.of("rows 3;column a 1 -1 5 gain 1;need 3 3 3;");
        Due.is("drawn(9999, 12, 2) of three rows: 9, 15, 57", rows.drawn(9999, 12, 2), 81);
        Due.is("drawn(9999, 12, 0): row 2, twelve times 57", rows.drawn(9999, 12, 0), 684);

        Due.sentence(37, "STRANGE if one can't be (without COLUMNS, too), or for another what.");
        Due.is("drawn(0, 0, 2)", x.drawn(0, 0, 2), 7);
        RowWalks one = Told.of("column a 1 gain 3;need 2;");
        Due.is("drawn(0, 12, 0) of one column: 12 less 2, twelve times", one.drawn(0, 12, 0), 120);
        Due.is("drawn(0, 12, 1) of one column", one.drawn(0, 12, 1), 36);
        Due.is("drawn(0, 12, 2) of one column", one.drawn(0, 12, 2), 10);
        Due.refusedBeside(0, 9999, "drawn of seed", STRANGE, (y, v) -> y.drawn(v, 1, 0));
        Due.refusedBeside(0, 12, "drawn of t", STRANGE, (y, v) -> y.drawn(1, v, 0));
        Due.refusedBeside(0, 2, "drawn what", STRANGE, (y, v) -> y.drawn(1, 1, v));
        for (int what = 0; what <= 2; what++) {
            int of = what;
            Due.refused(NEW, "drawn without columns", STRANGE, y -> y.drawn(0, 1, of));
            Due.refused(NEW, "drawn of 0 steps without columns", STRANGE, y -> y.drawn(0, 0, of));
        }

        Due.sentence(38, "Of seeds 0 to 99 how many WALKS so are within a STRIP w (0 .. 12)");
        for (int t = 0; t <= 12; t += 2) {
            for (int w = 0; w <= 12; w++) {
                int due = 0;
                for (int seed = 0; seed <= 99; seed++) {
                    due += draws(seed, t, numbers, gains, -7)[0] <= w * t ? 1 : 0;
                }
                Due.is("chance(" + t + ", " + w + ")", x.chance(t, w), due);
            }
        }
        Due.is("chance(1, 1) of one column", Told.of("column a 1 gain 1;").chance(1, 1), 100);
        Due.is("chance(12, 0) along the line", Told.of("column a 0 gain 1;").chance(12, 0), 100);
        Due.is("chance(1, 4) beside it", Told.of("column a 5 gain 1;").chance(1, 4), 0);
        Due.is("chance(1, 5) beside it", Told.of("column a 5 gain 1;").chance(1, 5), 100);
        seedsAtTheEnds();

        Due.sentence(38, "NONE if one can't be (without COLUMNS, too).");
        Due.refusedBeside(0, 12, "chance of t", NONE, (y, v) -> y.chance(v, 1));
        Due.refusedBeside(0, 12, "chance of w", NONE, (y, v) -> y.chance(1, v));
        Due.refused(NEW, "chance without columns", NONE, y -> y.chance(1, 1));
        Due.refused(NEW, "chance of 0 steps without columns", NONE, y -> y.chance(0, 0));
    }

    /** Seeds 0 and 99 count, 100 does not: among eight columns the one that such a seed leads to is alone within. */
    private static void seedsAtTheEnds() {
        for (int seed : new int[] {0, 99, 100}) {
            int column = (seed * 137 + 71) % 10007 % 8;
            int due = 0;
            StringBuilder text = new StringBuilder();
            for (int i = 0; i < 8; i++) {
                text.append("column ").append((char) ('a' + i)).append(i == column ? " 0" : " 1").append(" gain 0;");
            }
            for (int other = 0; other <= 99; other++) {
                due += (other * 137 + 71) % 10007 % 8 == column ? 1 : 0;
            }
            Due.is("chance(1, 0) of the column of seed " + seed, Told.of(text.toString()).chance(1, 0), due);
        }
    }

    static void all() {
        strip();
        walks();
        best();
        step();
        narrow();
        optimum();
        order();
        drawn();
    }
}
