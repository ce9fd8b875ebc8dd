/** The boundary cases of sums doubled, plans of fractions, corners; promises 32 to 36. */
final class EdgesOfFractions {
    private static final int NONE = Due.NONE;
    private static final int STRANGE = Due.STRANGE;
    private static final Due.Maker NEW = RowWalks::new;

    private EdgesOfFractions() {
    }

    private static void doubledIs(String text, int l, int w, int... due) {
        RowWalks x = Told.of(text);
        for (int what = 0; what <= l; what++) {
            Due.is("doubled(" + l + ", " + w + ", " + what + ") of " + text, x.doubled(l, w, what), due[what]);
        }
        for (int what = l + 1; what <= 4; what++) {
            Due.is("doubled(" + l + ", " + w + ", " + what + ") of " + text, x.doubled(l, w, what), NONE);
        }
        Due.is("doubled(" + l + ", " + w + ", 5) of " + text, x.doubled(l, w, 5), due[l + 1]);
    }

    static void doubled() {
        Due.sentence(Due.TERMS, "LEVEL 0: nothing, and each COLUMN, as far as it is NEAR");
        doubledIs("", 0, 0, 1, 1);
        doubledIs("need 1;", 0, 0, 0, 0);
        doubledIs("need 1;", 0, 1, 1, 0);
        doubledIs("column a 1 gain 1;need 1;", 0, 0, 1, 1);
        doubledIs("column a 1 gain 1;column b 1 gain 2;column c 0 gain 1;", 0, 1, 2, 1);
        doubledIs("column a 1 gain 1;column b -1 gain 2;column c 2 gain 1;", 0, 1, 3, 1);

        Due.sentence(Due.TERMS, "LEVEL i: all SUMS of two of LEVEL i - 1 (one twice, too) that are NEAR.");
        doubledIs("column a 1 gain 1;need 2;", 1, 0, 1, 1, 1);
        doubledIs("column a 1 gain 1;need 16;", 4, 0, 1, 1, 1, 1, 1, 1);
        doubledIs("column a 5 gain 1;need 20;", 2, 0, 1, 1, 1, 1);
        // 1 and 2 at level 0, 2, 3, 4 at level 1, of which 3 is near
        doubledIs("column a 1 gain 1;column b 2 gain 1;need 3;", 1, 1, 2, 3, 1);
        doubledIs("column a 1 gain 1;need 3;", 1, 1, 1, 1, 0);

        Due.sentence(Due.TERMS, "NEAR at LEVEL i: 2 to the power of L - i times SUM, less NEED, is no more than w times 2 to the power "
            + "of L - i without sign in any row.");
        for (String before : new String[] {"need ", "rows 2;need 0 ", "rows 3;need 0 0 "}) {
            for (String sign : new String[] {"", "-"}) {
                doubledIs(before + sign + "1;", 0, 1, 1, 0);
                doubledIs(before + sign + "2;", 0, 1, 0, 0);
                doubledIs(before + sign + "4;", 2, 1, 1, 0, 0, 0);
                doubledIs(before + sign + "5;", 2, 1, 0, 0, 0, 0);
                doubledIs(before + sign + "4;", 2, 2, 1, 1, 0, 0);
                doubledIs(before + sign + "4;", 1, 2, 1, 0, 0);
                doubledIs(before + sign + "16;", 4, 1, 1, 0, 0, 0, 0, 0);
                doubledIs(before + sign + "17;", 4, 1, 0, 0, 0, 0, 0, 0);
                doubledIs(before + sign + "3;", 0, 3, 1, 0);
                doubledIs(before + sign + "3;", 0, 2, 0, 0);
            }
        }

        Due.sentence(32, "what 0 .. 4: how many SUMS LEVEL 0 .. 4 has (of those up to L), 5: 1 if NEED is of LEVEL L, else 0.");
        doubledIs("rows 3;column a 1 0 0 gain 1;column b -1 0 0 gain 1;column c 0 1 0 gain 1;column d 0 -1 0 gain 1;"
            + "column e 0 0 1 gain 1;column f 0 0 -1 gain 1;", 4, 3, 7, 25, 123, 335, 343, 1);
        allDoubled(new int[][] {{1, 0, 2}, {0, 1, -1}, {2, 2, 1}, {-1, 1, 0}, {1, -2, 0}, {0, 0, 1}, {3, 1, 2}, {1, 1, 1}},
            7, -3, 12);
        allDoubled(new int[][] {{1, 2}, {2, -1}, {0, 1}}, 5, -2);
        allDoubled(new int[][] {{1}, {3}, {-2}}, -9);
        RowWalks x = Told.of("column a 1 gain 1;need 2;");
        x.doubled(1, 0, 5);
        x.want(0, 3);
        Due.is("doubled(1, 0, 5) of another need", x.doubled(1, 0, 5), 0);

        Due.sentence(32, "NONE if one can't be, or for another what.");
        Due.refusedBeside(0, 4, "doubled of l", NONE, (y, v) -> y.doubled(v, 1, 0));
        Due.refusedBeside(0, 4, "doubled of l, what 5", NONE, (y, v) -> y.doubled(v, 1, 5));
        Due.refusedBeside(0, 3, "doubled of w", NONE, (y, v) -> y.doubled(1, v, 0));
        Due.refusedBeside(0, 5, "doubled what", NONE, (y, v) -> y.doubled(4, 3, v));
    }

    /** Every level within every strip, on one object, by the plain second form of the document. */
    private static void allDoubled(int[][] columns, int... need) {
        Naive.State s = new Naive.State();
        s.rows = need.length;
        s.need = need;
        // what they gain is near, too, but no column
        int[] gains = {4, -1, 3, 2, 1, 0, 1, 2};
        for (int i = 0; i < columns.length; i++) {
            s.columns.add(columns[i]);
            s.gains.add(gains[i]);
            s.held.add(0);
        }
        Naive y = new Naive();
        y.load(s);
        RowWalks x = Told.of(Naive.textOf(s));
        for (int w = 3; w >= 0; w--) {
            for (int l = 0; l <= 4; l++) {
                for (int what = 0; what <= 5; what++) {
                    String call = "doubled(" + l + ", " + w + ", " + what + ") of " + Naive.textOf(s);
                    Due.is(call, x.doubled(l, w, what), y.doubled(l, w, what));
                }
            }
        }
        for (int w = 0; w <= 3; w++) {
            Due.is("doubled(3, " + w + ", 3)", x.doubled(3, w, 3), y.doubled(3, w, 3));
        }
    }

    private static void relaxedIs(String text, int upper, int lower, int set, int endless) {
        RowWalks x = Told.of(text);
        int[] due = {upper, lower, set, endless};
        for (int what = 0; what <= 3; what++) {
            Due.is("relaxed(" + what + ") of " + text, x.relaxed(what), due[what]);
        }
    }

    private static void noPlan(String text) {
        relaxedIs(text, STRANGE, STRANGE, STRANGE, STRANGE);
    }

    private static void endless(String text) {
        relaxedIs(text, STRANGE, STRANGE, STRANGE, 1);
    }

    static void relaxed() {
        Due.sentence(33, "RELAXED what 0: the GAIN's upper part, 1: its lower part (lowest terms, above 0), 2: its CORNER, as bits");
        relaxedIs("", 0, 1, 0, 0);
        relaxedIs("column a 2 gain 3;need 3;", 9, 2, 1, 0);
        relaxedIs("column a 2 gain -3;need 3;", -9, 2, 1, 0);
        relaxedIs("column a -2 gain 3;need -3;", 9, 2, 1, 0);
        relaxedIs("column a -2 gain -3;need -3;", -9, 2, 1, 0);
        relaxedIs("column a 2 gain 4;need 3;", 6, 1, 1, 0);
        relaxedIs("column a 2 gain 0;need 3;", 0, 1, 1, 0);
        relaxedIs("column a 1 gain 99;need 20;", 1980, 1, 1, 0);
        relaxedIs("column a 5 gain -99;need 19;", -1881, 5, 1, 0);
        String five = "column a 0 0 0 gain 0;column b 0 0 0 gain 0;column c 0 0 0 gain 0;column d 0 0 0 gain 0;"
            + "column e 0 0 0 gain 0;";
        relaxedIs("rows 3;" + five + "column f 1 0 0 gain 1;column g 0 1 0 gain 1;column h 0 0 1 gain 1;need 1 1 1;", 3, 1, 224, 0);
        relaxedIs("rows 3;" + five + "column f 1 0 0 gain 1;column g 0 1 0 gain 1;column h 0 0 1 gain 1;need 0 0 20;", 20, 1, 128, 0);

        Due.sentence(Due.TERMS, "RELAXED: of all PLANS of fractions (0 or more of each COLUMN) whose SUM is NEED the greatest GAIN");
        // less than 0 of b would let a gain without end
        relaxedIs("column a 2 gain 1;column b 1 gain 0;need 1;", 1, 2, 1, 0);
        relaxedIs("column a 2 gain 1;column b 1 gain 1;need 1;", 1, 1, 2, 0);
        relaxedIs("column a 1 gain -1;need 0;", 0, 1, 0, 0);

        Due.sentence(Due.TERMS, "ENDLESS, if there is none greatest.");
        relaxedIs("column a 0 gain 0;", 0, 1, 0, 0);
        endless("column a 0 gain 1;");
        relaxedIs("column a 0 gain -1;", 0, 1, 0, 0);
        relaxedIs("column a 1 gain 1;column b -1 gain -1;", 0, 1, 0, 0);
        endless("column a 1 gain 1;column b -1 gain 0;");
        relaxedIs("column a 2 gain 2;column b -3 gain -3;need 4;", 4, 1, 1, 0);
        endless("column a 2 gain 2;column b -3 gain -2;need 4;");
        relaxedIs("column a 2 gain 2;column b -3 gain -4;need 4;", 4, 1, 1, 0);
        String four = "rows 3;column a 1 0 0 gain 1;column b 0 1 0 gain 1;column c 0 0 1 gain 1;column d -1 -1 -1 gain ";
        relaxedIs(four + "-4;", 0, 1, 0, 0);
        relaxedIs(four + "-3;", 0, 1, 0, 0);
        endless(four + "-2;");
        relaxedIs(four + "-3;need 1 2 3;", 6, 1, 7, 0);
        relaxedIs("column a 1 gain 99;need 3;", 297, 1, 1, 0);
        RowWalks x = Told.of("column a 1 gain 1;column b -1 gain -1;need 2;");
        for (int gain : new int[] {0, -1, 5, -2, -1}) {
            x.worth(1, gain);
            Due.is("relaxed(3) behind others", x.relaxed(3), gain > -1 ? 1 : 0);
            Due.is("relaxed(0) behind others", x.relaxed(0), gain > -1 ? STRANGE : 2);
        }

        Due.sentence(33, "STRANGE (what 0 to 2: if it is ENDLESS, too) if there is no such PLAN, or for another what.");
        noPlan("need 1;");
        noPlan("column a 0 gain 1;need 1;");
        noPlan("column a -1 gain 1;need 1;");
        noPlan("column a 1 gain 1;need -1;");
        noPlan("rows 2;column a 1 0 gain 1;column b 0 1 gain 1;need 1 -1;");
        Due.refusedBeside(0, 3, "relaxed", STRANGE, RowWalks::relaxed);
        Due.is("relaxed(0) of a busy object", Due.busy().relaxed(0), 8);
    }

    private static void corners(String text, int due) {
        Due.is("corners() of " + text, Told.of(text).corners(), due);
    }

    static void corners() {
        Due.sentence(Due.TERMS, "A CORNER: a set of COLUMNS (as bits; of as many as there are rows at most) that do not depend on one "
            + "another, of which alone there is such a PLAN with more than 0 of each: that is its own.");
        corners("column a 1 gain 1;column b 2 gain 1;need 1;", 2);
        corners("rows 2;column a 1 1 gain 1;column b 2 2 gain 1;need 2 2;", 2);
        corners("rows 2;column a 1 0 gain 1;column b 0 1 gain 1;need 1 1;", 1);
        corners("rows 2;column a 1 0 gain 1;column b 0 1 gain 1;need 1 0;", 1);
        corners("rows 2;column a 1 0 gain 1;column b 0 1 gain 1;need 1 -1;", 0);
        corners("rows 2;column a 2 1 gain 1;column b 1 2 gain 1;column c 1 1 gain 1;need 2 2;", 2);
        corners("rows 3;column a 1 0 0 gain 1;column b 0 1 0 gain 1;column c 0 0 1 gain 1;column d 1 1 0 gain 1;need 1 1 1;", 2);
        corners("column a 0 gain 1;need 0;", 1);

        Due.sentence(Due.TERMS, "RELAXED is that of the CORNER with the greatest GAIN, of like ones the least set.");
        relaxedIs("column a 2 gain 3;column b 4 gain 6;need 4;", 6, 1, 1, 0);
        relaxedIs("column a 2 gain 3;column b 4 gain 7;need 4;", 7, 1, 2, 0);
        relaxedIs("column a 3 gain 1;column b 2 gain 1;need 1;", 1, 2, 2, 0);
        relaxedIs("rows 2;column a 1 0 gain 1;column b 0 1 gain 1;column c 1 1 gain 2;need 1 1;", 2, 1, 3, 0);
        relaxedIs("rows 2;column a 1 1 gain 2;column b 1 0 gain 1;column c 0 1 gain 1;need 1 1;", 2, 1, 1, 0);
        relaxedIs("rows 2;column a 1 0 gain 1;column b 0 1 gain 1;column c 1 1 gain 3;need 1 1;", 3, 1, 4, 0);
        relaxedIs("column a 1 gain -5;column b 2 gain -8;need 2;", -8, 1, 2, 0);

        Due.sentence(36, "How many CORNERS there are.");
        corners("", 1);
        corners("need 1;", 0);
        corners("column a -1 gain 1;need 1;", 0);
        corners("column a 1 gain 1;column b -1 gain 1;", 1);
        StringBuilder eight = new StringBuilder();
        for (char name = 'a'; name <= 'h'; name++) {
            eight.append("column ").append(name).append(" 1 gain 1;");
        }
        corners(eight + "need 20;", 8);
        fullOfCorners();
    }

    /** Eight columns of three rows around the need, by the plain second form of the document. */
    private static void fullOfCorners() {
        int[][] columns = {{5, 1, 0}, {5, 0, 1}, {1, 5, 0}, {0, 5, 1}, {1, 0, 5}, {0, 1, 5}, {3, 3, 3}, {5, 5, 4}};
        Naive.State s = new Naive.State();
        s.rows = 3;
        s.need = new int[] {7, 7, 7};
        for (int i = 0; i < 8; i++) {
            s.columns.add(columns[i]);
            s.gains.add(i + 1);
            s.held.add(0);
        }
        Naive y = new Naive();
        y.load(s);
        RowWalks x = Told.of(Naive.textOf(s));
        Due.is("corners() of eight around the need", x.corners(), y.corners());
        for (int what = 0; what <= 3; what++) {
            Due.is("relaxed(" + what + ") of eight around the need", x.relaxed(what), y.relaxed(what));
        }
        for (int column = 0; column < 8; column++) {
            Due.is("fraction(" + column + ", 0)", x.fraction(column, 0), y.fraction(column, 0));
            Due.is("fraction(" + column + ", 1)", x.fraction(column, 1), y.fraction(column, 1));
        }
    }

    static void fraction() {
        Due.sentence(34, "the upper part (0), the lower part (1), in lowest terms (0 of 1)");
        RowWalks x = Told.of("rows 3;column a 4 0 0 gain 1;column b 0 3 0 gain 1;column c 0 0 5 gain 1;column d 1 1 1 gain -99;"
            + "need 6 20 20;");
        int[] parts = {3, 2, 20, 3, 4, 1, 0, 1};
        for (int column = 0; column < 4; column++) {
            Due.is("fraction(" + column + ", 0)", x.fraction(column, 0), parts[2 * column]);
            Due.is("fraction(" + column + ", 1)", x.fraction(column, 1), parts[2 * column + 1]);
        }
        x = Told.of("column a -4 gain 1;need -6;");
        Due.is("fraction(0, 0) of numbers below 0", x.fraction(0, 0), 3);
        Due.is("fraction(0, 1) of numbers below 0", x.fraction(0, 1), 2);
        x = Told.of("column a 1 gain -1;");
        Due.is("fraction(0, 0) of no need", x.fraction(0, 0), 0);
        Due.is("fraction(0, 1) of no need", x.fraction(0, 1), 1);

        Due.sentence(34, "STRANGE if there is none, it is ENDLESS, or one can't be.");
        Due.is("fraction(2, 0) of a busy object", Due.busy().fraction(2, 0), 2);
        Due.refusedBeside(0, 2, "fraction of column", STRANGE, (y, v) -> y.fraction(v, 0));
        Due.refusedBeside(0, 2, "fraction of column, part 1", STRANGE, (y, v) -> y.fraction(v, 1));
        Due.refusedBeside(0, 1, "fraction of part", STRANGE, (y, v) -> y.fraction(0, v));
        Due.refused(NEW, "fraction(0, 0) of no columns", STRANGE, y -> y.fraction(0, 0));
        for (int part = 0; part <= 1; part++) {
            Due.is("fraction of no plan", Told.of("column a -1 gain 1;need 1;").fraction(0, part), STRANGE);
            Due.is("fraction of an endless one", Told.of("column a 1 gain 1;column b 0 gain 1;need 1;").fraction(0, part), STRANGE);
        }
    }

    private static void apartIs(String text, int upper, int lower) {
        RowWalks x = Told.of(text);
        Due.is("apart(0) of " + text, x.apart(0), upper);
        Due.is("apart(1) of " + text, x.apart(1), lower);
    }

    static void apart() {
        Due.sentence(35, "How far the OPTIMUM's PLAN is from it, over all COLUMNS together without signs: the upper part (0), "
            + "the lower part (1), in lowest terms");
        apartIs("", 0, 1);
        apartIs("column a 1 gain 1;need 8;", 0, 1);
        // b one and a half times, or a three times
        apartIs("column a 1 gain 1;column b 2 gain 9;need 3;", 3, 2);
        // the whole one is c, that of fractions a half of each of a and b
        apartIs("rows 2;column a 2 0 gain 9;column b 0 2 gain 9;column c 1 1 gain 1;need 1 1;", 2, 1);
        apartIs("column a 3 gain 9;column b 1 gain 1;need 20;steps 8;", 8, 3);
        apartIs("column a 0 gain 0;column b 0 gain 0;column c 0 gain 0;column d 0 gain 0;column e 0 gain 0;column f 0 gain 0;"
            + "column g 1 gain 1;column h 2 gain 9;need 3;", 3, 2);

        Due.sentence(35, "STRANGE if one of both is not there, or for another part.");
        apartIs("need 1;", STRANGE, STRANGE);
        apartIs("column a 2 gain 1;need 3;", STRANGE, STRANGE);
        apartIs("column a 1 gain 1;need 3;steps 2;", STRANGE, STRANGE);
        apartIs("column a 1 gain 1;need 3;steps 3;", 0, 1);
        apartIs("column a 1 gain 1;column b 0 gain 1;need 1;", STRANGE, STRANGE);
        apartIs("column a -1 gain 1;need 1;", STRANGE, STRANGE);
        Due.is("apart(0) of a busy object", Due.busy().apart(0), 0);
        Due.refusedBeside(0, 1, "apart", STRANGE, RowWalks::apart);
    }

    static void all() {
        doubled();
        relaxed();
        corners();
        fraction();
        apart();
    }
}
