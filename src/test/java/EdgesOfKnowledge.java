/** The boundary cases of what is seen, when it is known, what fits, what to ask; promises 39 to 44. */
final class EdgesOfKnowledge {
    private static final int NONE = Due.NONE;
    private static final int STRANGE = Due.STRANGE;
    private static final int LEAST = Due.LEAST;
    private static final int MOST = Due.MOST;
    private static final Due.Maker NEW = RowWalks::new;

    private static final String EIGHT = "column a 1 gain 1;column b 2 gain 1;column c 3 gain 1;column d 4 gain 1;"
        + "column e 5 gain 1;column f -5 gain 1;column g -4 gain 1;column h -3 gain 1;";

    private EdgesOfKnowledge() {
    }

    private static void fitsAre(RowWalks x, int k, int... due) {
        Due.is("fits(" + k + ")", x.fits(k), due.length);
        for (int i = 0; i < due.length; i++) {
            Due.is("fit(" + i + ", " + k + ")", x.fit(i, k), due[i]);
        }
        for (int i : new int[] {-1, due.length, due.length + 1, LEAST, MOST}) {
            Due.is("fit(" + i + ", " + k + ")", x.fit(i, k), -2);
        }
    }

    private static RowWalks full() {
        RowWalks x = Due.busy();
        for (int i = 3; i < 20; i++) {
            x.seen(0, 0, 0, 0, true);
        }
        return x;
    }

    static void seen() {
        Due.sentence(39, "A SEEN (T 0 .. 8; -80 .. 80 each): its number");
        RowWalks x = Told.of("rows 3;column a 5 5 -5 gain 1;");
        Due.is("seen of the least", x.seen(0, -80, -80, -80, false), 0);
        Due.is("seen of the most", x.seen(8, 80, 80, 80, false), 1);
        Due.is("seen of 8 steps", x.seen(8, 40, 40, -40, true), 2);
        fitsAre(x, 0, -1);
        Due.is("seen, that it is not so", x.seen(8, 40, 40, -40, false), 3);
        fitsAre(x, 0);
        for (int i = 4; i < 20; i++) {
            Due.is("seen", x.seen(0, 0, 0, 0, true), i);
        }
        Due.is("about(6)", x.about(6), 20);
        x.program();
        Due.is("seen of another text", x.seen(0, 0, 0, 0, true), 0);

        Due.sentence(39, "NONE, doing nothing, if there is no such T, number, or there are 20.");
        Due.refusedBeside(0, 8, "seen of t", NONE, (y, v) -> y.seen(v, 0, 0, 0, false));
        Due.refusedBeside(-80, 80, "seen of a", NONE, (y, v) -> y.seen(1, v, 0, 0, true));
        Due.refusedBeside(-80, 80, "seen of b", NONE, (y, v) -> y.seen(1, 0, v, 0, true));
        Due.refusedBeside(-80, 80, "seen of c", NONE, (y, v) -> y.seen(1, 0, 0, v, true));
        Due.refused(EdgesOfKnowledge::full, "seen of 21", NONE, y -> y.seen(1, 1, 0, 0, false));
        Due.is("seen of 20", allButOne().seen(1, 1, 0, 0, false), 19);
        x = full();
        for (int i = 0; i < 20; i++) {
            x.untell(i);
        }
        Due.is("seen of 21 where all are untold", x.seen(0, 0, 0, 0, true), NONE);
    }

    private static RowWalks allButOne() {
        RowWalks x = new RowWalks();
        for (int i = 0; i < 19; i++) {
            x.seen(0, 0, 0, 0, true);
        }
        return x;
    }

    static void sums() {
        Due.sentence(Due.TERMS, "that some WALK of just T STEPS has a SUM (three numbers, of which those count of which there are rows), "
            + "or that none has");
        RowWalks x = Told.of("column a 2 gain 1;");
        x.seen(1, 2, 77, -77, true);
        fitsAre(x, 0, -1);
        x = Told.of("rows 2;column a 2 3 gain 1;");
        x.seen(1, 2, 3, -77, true);
        fitsAre(x, 0, -1);
        x = Told.of("rows 2;column a 2 3 gain 1;");
        x.seen(1, 2, 4, 0, true);
        fitsAre(x, 0);
        x = Told.of("rows 3;column a 2 3 4 gain 1;");
        x.seen(1, 2, 3, 4, true);
        fitsAre(x, 0, -1);
        x = Told.of("rows 3;column a 2 3 4 gain 1;");
        x.seen(1, 2, 3, 5, true);
        fitsAre(x, 0);
        x = Told.of("rows 3;column a 2 3 4 gain 1;");
        x.seen(1, -2, -3, -4, false);
        fitsAre(x, 0, -1);
        // just so many steps: 4 is had by two, not by one or three
        int[][] due = {{}, {}, {-1}, {}};
        for (int t = 0; t <= 3; t++) {
            x = Told.of("column a 2 gain 1;");
            x.seen(t, 4, 0, 0, true);
            fitsAre(x, 0, due[t]);
        }
        x = Told.of("column a 2 gain 1;");
        x.seen(0, 0, 0, 0, true);
        fitsAre(x, 0, -1, 0);
        x.seen(0, 0, 0, 0, false);
        fitsAre(x, 0);
        x = new RowWalks();
        x.seen(1, 0, 0, 0, false);
        fitsAre(x, 0, -1);
        x.seen(1, 0, 0, 0, true);
        fitsAre(x, 0);

        Due.sentence(Due.TERMS, "all as told by the text, but that one of the COLUMNS, or none, was really turned about "
            + "(all its numbers with the other sign), which is not known.");
        x = Told.of("rows 3;column a 1 -2 3 gain 1;column b 4 0 -5 gain 1;");
        x.change(0, 0, 5);
        x.image(0);
        x.change(1, 1, 5);
        x.seen(1, -1, 2, -3, true);
        fitsAre(x, 0, 0);
        x.back(0);
        fitsAre(x, 0, 0);
        x.untell(0);
        // both turned would have it
        x.seen(2, -5, 2, 2, true);
        fitsAre(x, 0);
    }

    static void untell() {
        Due.sentence(40, "It is UNTOLD: true; false if it is so already, or there is none such.");
        RowWalks x = full();
        Due.is("untell(19), the last", x.untell(19), true);
        Due.is("untell(19) once more", x.untell(19), false);
        Due.is("untell(1)", x.untell(1), true);
        Due.is("untell(0), which was so already", x.untell(0), false);
        Due.is("about(6) stays", x.about(6), 20);
        Due.is("untell(20) of 20", x.untell(20), false);
        Due.refusedBeside(0, 2, "untell", 0, (y, v) -> Due.bit(y.untell(v)));
        Due.refused("untell(0), which is so already", 0, y -> Due.bit(y.untell(0)));
        Due.refused(NEW, "untell(0) of nothing", 0, y -> Due.bit(y.untell(0)));
        // it stays untold at the time at which it was first
        x = Told.of("column a 2 gain 1;");
        x.seen(1, 2, 0, 0, true);
        x.later(3);
        x.untell(0);
        x.later(3);
        x.untell(0);
        fitsAre(x, 2, -1);
        fitsAre(x, 3, -1, 0);
        fitsAre(x, 6, -1, 0);
    }

    static void later() {
        Due.sentence(41, "So much later (0 .. 1000): the TIME");
        RowWalks x = new RowWalks();
        Due.is("later(0)", x.later(0), 0);
        Due.is("later(1)", x.later(1), 1);
        Due.is("later(1000)", x.later(1000), 1001);
        Due.is("about(7)", x.about(7), 1001);
        x.program();
        Due.is("later(0) behind another text", x.later(0), 1001);

        Due.sentence(41, "NONE, doing nothing, for another number, or if it would be above 100,000.");
        Due.refusedBeside(0, 1000, "later", NONE, RowWalks::later);
        Due.refused(() -> at(99999), "later(2) at 99,999", NONE, y -> y.later(2));
        Due.refused(() -> at(100000), "later(1) at 100,000", NONE, y -> y.later(1));
        Due.refused(() -> at(100000), "later(1000) at 100,000", NONE, y -> y.later(1000));
        Due.refused(() -> at(100000), "later of the most at 100,000", NONE, y -> y.later(MOST));
        Due.is("later(1) at 99,999", at(99999).later(1), 100000);
        Due.is("later(0) at 100,000", at(100000).later(0), 100000);
        Due.is("later(1000) at 99,000", at(99000).later(1000), 100000);
        x = at(100000);
        Told.program(x, "column a 2 gain 1;");
        x.seen(1, 2, 0, 0, true);
        fitsAre(x, 99999, -1, 0);
        fitsAre(x, 100000, -1);
        x.untell(0);
        fitsAre(x, 100000, -1, 0);
    }

    private static RowWalks at(int time) {
        RowWalks x = new RowWalks();
        for (int i = 0; i < time / 1000; i++) {
            x.later(1000);
        }
        x.later(time % 1000);
        return x;
    }

    static void fits() {
        Due.sentence(Due.TERMS, "As known at k that counts that was TOLD at k or before, not UNTOLD at k or before.");
        RowWalks x = Told.of("column a 2 gain 1;");
        x.later(5);
        x.seen(1, 2, 0, 0, true);
        x.later(5);
        x.untell(0);
        for (int k : new int[] {LEAST, -1, 0, 4}) {
            fitsAre(x, k, -1, 0);
        }
        for (int k = 5; k <= 9; k++) {
            fitsAre(x, k, -1);
        }
        for (int k : new int[] {10, 11, 100000, MOST}) {
            fitsAre(x, k, -1, 0);
        }
        x.seen(1, -2, 0, 0, true);
        fitsAre(x, 9, -1);
        fitsAre(x, 10, 0);
        fitsAre(x, MOST, 0);
        fitsAre(x, LEAST, -1, 0);

        Due.sentence(Due.TERMS, "SEEN, 20 at most, is TOLD at a TIME (0 at first, goes on), UNTOLD at a later one or the same");
        x = Told.of("column a 2 gain 1;");
        x.seen(1, 2, 0, 0, true);
        fitsAre(x, -1, -1, 0);
        fitsAre(x, 0, -1);
        x.untell(0);
        fitsAre(x, -1, -1, 0);
        fitsAre(x, 0, -1, 0);

        Due.sentence(Due.TERMS, "FITS: what may have been turned by which all that counts is so: -1 (none), or a COLUMN that is not of 0 alone.");
        fitsAre(new RowWalks(), 0, -1);
        fitsAre(Told.of("column a 0 gain 9;"), 0, -1);
        fitsAre(Told.of("rows 3;column a 0 0 0 gain 9;column b 1 0 0 gain 1;column c 0 -1 0 gain 1;column d 0 0 1 gain 1;"),
            0, -1, 1, 2, 3);
        x = Told.of("rows 2;column a 0 0 gain 9;column b 0 1 gain 1;");
        x.change(0, 0, 5);
        x.change(1, 1, 0);
        fitsAre(x, 0, -1, 1);

        Due.sentence(42, "FITS: how many.");
        x = Told.of(EIGHT);
        Due.is("fits(0), all that there can be", x.fits(0), 9);
        x.seen(1, 80, 0, 0, true);
        Due.is("fits(0), none", x.fits(0), 0);

        Due.sentence(43, "The i-th (0 ..) of FITS, from -1 on; -2 if there is none such.");
        fitsAre(Told.of(EIGHT), 0, -1, 0, 1, 2, 3, 4, 5, 6, 7);
        fitsAre(x, 0);
        x = Told.of(EIGHT);
        x.seen(1, 1, 0, 0, false);
        fitsAre(x, 0, 0);
        x = Told.of(EIGHT);
        x.seen(1, -3, 0, 0, false);
        fitsAre(x, 0, 7);
    }

    private static void askIs(RowWalks x, int t, int number, int left) {
        Due.is("ask(" + t + ", 0, 0)", x.ask(t, 0, 0), number);
        Due.is("ask(" + t + ", 1, 0)", x.ask(t, 1, 0), left);
    }

    static void ask() {
        Due.sentence(Due.TERMS, "ASK for T STEPS: of row 0 the number from -20 to 20 of which to know whether some WALK of just so many STEPS "
            + "has it there would leave the fewest of these at the most; of like ones the least.");
        RowWalks x = Told.of("column a 5 gain 1;");
        askIs(x, 0, -20, 2);
        askIs(x, 1, -5, 1);
        askIs(x, 4, -20, 1);
        askIs(x, 5, -20, 2);
        askIs(x, 8, -20, 2);
        x = Told.of("column a 3 gain 1;");
        askIs(x, 6, -18, 1);
        askIs(x, 7, -20, 2);
        // 20 alone is had by two of four, every other number by three at least or one at most
        x = Told.of("column a -4 gain 0;column b 0 gain 0;column c 3 gain 0;column d 2 gain 0;");
        askIs(x, 8, 20, 2);
        // row 1 tells nothing
        askIs(Told.of("rows 2;column a 0 5 gain 1;"), 1, -20, 2);
        askIs(Told.of("rows 2;column a 1 5 gain 1;"), 1, -1, 1);
        askIs(new RowWalks(), 0, -20, 1);
        askIs(new RowWalks(), 8, -20, 1);
        x = Told.of("column a 5 gain 1;");
        x.change(0, 0, 1);
        askIs(x, 1, -5, 1);
        // of these alone that fit
        x = Told.of("column a 5 gain 1;column b 1 gain 1;");
        askIs(x, 1, -5, 2);
        x.seen(1, 5, 0, 0, true);
        askIs(x, 1, -1, 1);

        Due.sentence(44, "ASK (T 0 .. 8) what 0: which number, 1: how many are left at the most; STRANGE if none FITS, for another T, what.");
        x = Told.of(EIGHT);
        for (int t = 0; t <= 8; t += 8) {
            Due.is("whether there is ask(" + t + ", 0, 0)", x.ask(t, 0, 0) >= -20 && x.ask(t, 0, 0) <= 20, true);
            Due.is("whether there is ask(" + t + ", 1, 0)", x.ask(t, 1, 0) >= 1 && x.ask(t, 1, 0) <= 9, true);
        }
        x.later(1);
        x.seen(0, 1, 0, 0, true);
        Due.is("ask(1, 0, 1) where none fits", x.ask(1, 0, 1), STRANGE);
        Due.is("ask(1, 1, 1) where none fits", x.ask(1, 1, 1), STRANGE);
        Due.is("ask(1, 1, 0) before that", x.ask(1, 1, 0), 8);
        Due.refusedBeside(0, 8, "ask of t", STRANGE, (y, v) -> y.ask(v, 0, 0));
        Due.refusedBeside(0, 8, "ask of t, what 1", STRANGE, (y, v) -> y.ask(v, 1, 0));
        Due.refusedBeside(0, 1, "ask what", STRANGE, (y, v) -> y.ask(1, v, 0));
    }

    static void all() {
        seen();
        sums();
        untell();
        later();
        fits();
        ask();
    }
}
