/** The boundary cases of what hands turn and hold: acts, exchanges, images; promises 6 to 19, 45 to 47. */
final class EdgesOfHands {
    private static final int NONE = Due.NONE;
    private static final int STRANGE = Due.STRANGE;
    private static final int LEAST = Due.LEAST;
    private static final int MOST = Due.MOST;

    private static final String EMPTY = "";
    /** As many columns and rows as can be. */
    private static final String FULL = "rows 3;column a -5 5 1 gain 99;column b 0 0 0 gain -99;column c 1 1 1 gain 1;"
        + "column d 2 2 2 gain 2;column e 3 3 3 gain 3;column f 4 4 4 gain 4;column g 5 5 5 gain 5;"
        + "column h -4 -5 5 gain 7;need 20 -20 1;steps 12;";
    private static final Due.Maker NEW = RowWalks::new;

    private EdgesOfHands() {
    }

    static void looks() {
        RowWalks x = Told.of(FULL);
        Due.sentence(6, "STRANGE if there is none such.");
        Due.is("number(0, 0)", x.number(0, 0), -5);
        Due.is("number(7, 2)", x.number(7, 2), 5);
        Due.is("number(7, 3) of three rows", x.number(7, 3), STRANGE);
        Due.is("number(8, 0) of eight", x.number(8, 0), STRANGE);
        Due.is("number(0, -1) of three rows", x.number(0, -1), STRANGE);
        Due.is("number(1, -1), beside which one is", x.number(1, -1), STRANGE);
        Due.is("number(0, 3), beside which one is", x.number(0, 3), STRANGE);
        Due.refusedBeside(0, 2, "number of column", STRANGE, (y, v) -> y.number(v, 0));
        Due.refusedBeside(0, 1, "number of row", STRANGE, (y, v) -> y.number(0, v));
        Due.refused(NEW, "number(0, 0) of no columns", STRANGE, y -> y.number(0, 0));

        Due.sentence(7, "STRANGE if there is none such.");
        Due.is("gain(0)", x.gain(0), 99);
        Due.is("gain(7)", x.gain(7), 7);
        Due.is("gain(8) of eight", x.gain(8), STRANGE);
        Due.refusedBeside(0, 2, "gain", STRANGE, RowWalks::gain);
        Due.refused(NEW, "gain(0) of no columns", STRANGE, y -> y.gain(0));

        Due.sentence(8, "STRANGE if there is none such.");
        Due.is("need(0)", x.need(0), 20);
        Due.is("need(2)", x.need(2), 1);
        Due.is("need(3) of three rows", x.need(3), STRANGE);
        Due.refusedBeside(0, 1, "need", STRANGE, RowWalks::need);
        Due.refused(NEW, "need(1) of one row", STRANGE, y -> y.need(1));
    }

    static void change() {
        Due.sentence(9, "A number (-5 .. 5) becomes another one: what it was");
        RowWalks x = Told.of(FULL);
        Due.is("change(7, 2, -5)", x.change(7, 2, -5), 5);
        Due.is("number(7, 2)", x.number(7, 2), -5);
        Due.is("change(7, 2, 5)", x.change(7, 2, 5), -5);
        Due.is("number(7, 2)", x.number(7, 2), 5);
        Due.is("change(0, 0, 0)", x.change(0, 0, 0), -5);
        Due.is("number(0, 0)", x.number(0, 0), 0);
        Due.is("number(0, 1), beside it", x.number(0, 1), 5);
        Due.is("number(1, 0), beside it", x.number(1, 0), 0);

        Due.sentence(9, "STRANGE, doing nothing, if it can't be, or is that. (An ACT.)");
        Due.refusedBeside(-5, 5, "change to", STRANGE, (y, v) -> y.change(0, 0, v));
        Due.refusedBeside(0, 2, "change of column", STRANGE, (y, v) -> y.change(v, 0, 4));
        Due.refusedBeside(0, 1, "change of row", STRANGE, (y, v) -> y.change(0, v, 4));
        Due.refused("change to what it is", STRANGE, y -> y.change(0, 0, 1));
        Due.refused("change to 0, as it is", STRANGE, y -> y.change(0, 1, 0));
        Due.refused(NEW, "change of no columns", STRANGE, y -> y.change(0, 0, 1));
        isAct(y -> y.change(0, 0, 3), y -> y.number(0, 0), 1, 3);
    }

    static void worth() {
        Due.sentence(10, "What a COLUMN gains (-99 .. 99) becomes something else: likewise.");
        RowWalks x = Told.of(FULL);
        Due.is("worth(7, -99)", x.worth(7, -99), 7);
        Due.is("gain(7)", x.gain(7), -99);
        Due.is("worth(7, 99)", x.worth(7, 99), -99);
        Due.is("gain(7)", x.gain(7), 99);
        Due.is("gain(6), beside it", x.gain(6), 5);
        Due.refusedBeside(-99, 99, "worth", STRANGE, (y, v) -> y.worth(0, v));
        Due.refusedBeside(0, 2, "worth of column", STRANGE, (y, v) -> y.worth(v, 50));
        Due.refused("worth as it is", STRANGE, y -> y.worth(0, 2));
        Due.refused(NEW, "worth of no columns", STRANGE, y -> y.worth(0, 1));
        isAct(y -> y.worth(2, -8), y -> y.gain(2), 4, -8);
    }

    static void want() {
        Due.sentence(11, "NEED in a row (-20 .. 20) becomes another one: likewise.");
        RowWalks x = Told.of(FULL);
        Due.is("want(2, -20)", x.want(2, -20), 1);
        Due.is("need(2)", x.need(2), -20);
        Due.is("want(2, 20)", x.want(2, 20), -20);
        Due.is("need(2)", x.need(2), 20);
        Due.is("need(1), beside it", x.need(1), -20);
        Due.refusedBeside(-20, 20, "want", STRANGE, (y, v) -> y.want(0, v));
        Due.refusedBeside(0, 1, "want of row", STRANGE, (y, v) -> y.want(v, 9));
        Due.refused("want as it is", STRANGE, y -> y.want(0, 2));
        isAct(y -> y.want(0, -3), y -> y.need(0), 2, -3);
        Due.is("want without columns", new RowWalks().want(0, 20), 0);
    }

    static void allow() {
        Due.sentence(12, "steps (1 .. 12) become others: likewise.");
        RowWalks x = new RowWalks();
        Due.is("allow(1)", x.allow(1), 8);
        Due.is("steps", x.about(2), 1);
        Due.is("allow(12)", x.allow(12), 1);
        Due.is("steps", x.about(2), 12);
        Due.refusedBeside(1, 12, "allow", STRANGE, RowWalks::allow);
        Due.refused("allow as it is", STRANGE, y -> y.allow(4));
        isAct(y -> y.allow(7), y -> y.about(2), 4, 7);
    }

    static void hold() {
        Due.sentence(13, "A COLUMN is HELD so often (0 .. 99): how often it was");
        RowWalks x = Told.of(FULL);
        Due.is("hold(7, 99)", x.hold(7, 99), 0);
        Due.is("held(7)", x.held(7), 99);
        Due.is("hold(7, 0)", x.hold(7, 0), 99);
        Due.is("held(7)", x.held(7), 0);
        Due.is("hold(0, 1)", x.hold(0, 1), 0);
        Due.is("held(1), beside it", x.held(1), 0);

        Due.sentence(13, "NONE, doing nothing, if it can't be, or is so. (An ACT.)");
        Due.refusedBeside(0, 99, "hold", NONE, (y, v) -> y.hold(0, v));
        Due.refusedBeside(0, 2, "hold of column", NONE, (y, v) -> y.hold(v, 7));
        Due.refused("hold as it is", NONE, y -> y.hold(0, 2));
        Due.refused("hold 0 as it is", NONE, y -> y.hold(2, 0));
        Due.refused(NEW, "hold of no columns", NONE, y -> y.hold(0, 1));
        isAct(y -> y.hold(2, 99), y -> y.held(2), 0, 99);
    }

    /** On a busy object, of which six acts can be undone and one redone. */
    private static void isAct(Due.Call act, Due.Call look, long was, long is) {
        RowWalks x = Due.busy();
        Due.is("before the act", look.on(x), was);
        act.on(x);
        Due.is("behind the act", look.on(x), is);
        Due.is("acts that can be undone", x.about(4), 7);
        Due.is("acts that can be redone", x.about(5), 0);
        Due.is("redo() behind it", x.redo(), false);
        Due.is("undo() of it", x.undo(), true);
        Due.is("behind undo()", look.on(x), was);
        Due.is("acts that can be undone", x.about(4), 6);
        Due.is("acts that can be redone", x.about(5), 1);
        Due.is("redo() of it", x.redo(), true);
        Due.is("behind redo()", look.on(x), is);
    }

    static void better() {
        Due.sentence(14, "The HELD PLAN is BETTERED by the best EXCHANGE of r (1 .. 3): its GAIN then");
        // of r 1: b for a, 1 more; of r 2 and 3 twice, three times that
        String text = "column a 1 gain -7;column b 1 gain -6;";
        for (int r = 1; r <= 3; r++) {
            RowWalks x = Told.of(text);
            x.hold(0, 5);
            Due.is("better(" + r + "), its gain below 0", x.better(r), -35 + r);
            Due.is("held(0)", x.held(0), 5 - r);
            Due.is("held(1)", x.held(1), r);
        }

        Due.sentence(14, "STRANGE, doing nothing, if there is none, or r can't be. (An ACT.)");
        Due.refusedBeside(1, 3, "better", STRANGE, RowWalks::better);
        Due.refused(NEW, "better of no columns", STRANGE, y -> y.better(3));
        Due.refused(EdgesOfHands::likeGains, "better by nothing", STRANGE, y -> y.better(1));
        Due.refused(EdgesOfHands::likeGains, "better by nothing", STRANGE, y -> y.better(3));
        isAct(y -> y.better(3), y -> y.held(2), 0, 2);
        RowWalks x = Due.busy();
        x.better(3);
        x.undo();
        Due.is("held(0) behind undo()", x.held(0), 2);
        Due.is("held(1) behind undo()", x.held(1), 2);
    }

    private static RowWalks likeGains() {
        RowWalks x = Told.of("column a 1 gain 5;column b 1 gain 5;column c 2 gain 10;");
        x.hold(0, 3);
        x.hold(2, 3);
        return x;
    }

    static void undo() {
        Due.sentence(15, "UNDO: true; false if there is none.");
        Due.refused(NEW, "undo() of none", 0, y -> Due.bit(y.undo()));
        RowWalks x = new RowWalks();
        x.allow(9);
        Due.is("undo() of one", x.undo(), true);
        Due.is("steps", x.about(2), 8);
        Due.is("undo() of none", x.undo(), false);
        Due.is("steps", x.about(2), 8);
        Due.is("can be redone", x.about(5), 1);

        Due.sentence(16, "REDO: true; false if there is none.");
        Due.is("redo()", x.redo(), true);
        Due.is("steps", x.about(2), 9);
        Due.is("redo() of none", x.redo(), false);
        Due.is("steps", x.about(2), 9);
        Due.is("can be undone", x.about(4), 1);
        Due.refused(NEW, "redo() of none", 0, y -> Due.bit(y.redo()));
        Due.refused(EdgesOfHands::likeGains, "redo() of none taken back", 0, y -> Due.bit(y.redo()));

        Due.sentence(Due.TERMS, "UNDO takes back the latest ACT that was not, REDO does that again which was taken back last "
            + "(till another ACT)");
        order();
        Due.sentence(Due.TERMS, "20 at most are kept, the oldest go.");
        oldest();
        ring();
        ringOfExchanges();
    }

    private static void order() {
        RowWalks x = new RowWalks();
        x.allow(1);
        x.want(0, 5);
        x.allow(2);
        x.undo();
        Due.is("steps, the latest act", x.about(2), 1);
        x.undo();
        Due.is("need(0), the latest that was not taken back", x.need(0), 0);
        Due.is("steps", x.about(2), 1);
        x.redo();
        Due.is("need(0), that which was taken back last", x.need(0), 5);
        Due.is("steps", x.about(2), 1);
        Due.is("an act that is refused", x.allow(1), STRANGE);
        Due.is("one can be redone still", x.about(5), 1);
        x.redo();
        Due.is("steps", x.about(2), 2);
        x.undo();
        x.undo();
        x.allow(12);
        Due.is("redo() behind another act", x.redo(), false);
        Due.is("none can be redone", x.about(5), 0);
        Due.is("two can be undone", x.about(4), 2);
        x.undo();
        Due.is("steps", x.about(2), 1);
        x.redo();
        Due.is("steps, the other act", x.about(2), 12);
    }

    private static void oldest() {
        RowWalks x = Told.of("column a 1 gain 1;");
        for (int i = 1; i <= 20; i++) {
            x.hold(0, i);
            Due.is("acts", x.about(4), i);
        }
        x.want(0, 1);
        Due.is("21 acts", x.about(4), 20);
        for (int i = 0; i < 20; i++) {
            Due.is("undo()", x.undo(), true);
            Due.is("held(0)", x.held(0), i == 0 ? 20 : 20 - i);
        }
        Due.is("undo() of the oldest", x.undo(), false);
        Due.is("held(0): the oldest went", x.held(0), 1);
        Due.is("can be redone", x.about(5), 20);
        for (int i = 0; i < 20; i++) {
            Due.is("redo()", x.redo(), true);
        }
        Due.is("redo() of none", x.redo(), false);
        Due.is("held(0)", x.held(0), 20);
        Due.is("need(0)", x.need(0), 1);
        x = Told.of("column a 1 gain 1;");
        for (int i = 1; i <= 20; i++) {
            x.hold(0, i);
        }
        for (int i = 0; i < 20; i++) {
            x.undo();
        }
        Due.is("undo() of exactly 20: the first, too", x.held(0), 0);
        x.hold(0, 50);
        Due.is("acts behind another act", x.about(4), 1);
        Due.is("none can be redone", x.about(5), 0);
    }

    /** More acts than are kept, again and again, with some taken back between. */
    private static void ring() {
        RowWalks x = Told.of("column a 1 gain 1;column b 1 gain 2;");
        Naive y = new Naive();
        Naive.State s = new Naive.State();
        s.columns.add(new int[] {1});
        s.columns.add(new int[] {1});
        s.gains.add(1);
        s.gains.add(2);
        s.held.add(0);
        s.held.add(0);
        y.load(s);
        for (int i = 1; i <= 75; i++) {
            Due.is("hold", x.hold(0, i), y.hold(0, i));
            if (i % 11 == 0) {
                Due.is("better", x.better(1 + i % 3), y.better(1 + i % 3));
            }
            for (int back = i % 7; back > 4; back--) {
                Due.is("undo", x.undo(), y.undo());
            }
            if (i % 7 == 6 && i % 2 == 0) {
                Due.is("redo", x.redo(), y.redo());
            }
            Due.is("acts", x.about(4), y.about(4));
        }
        for (int i = 0; i < 21; i++) {
            Due.is("undo", x.undo(), y.undo());
            Due.is("held(0)", x.held(0), y.held(0));
            Due.is("held(1)", x.held(1), y.held(1));
        }
        for (int i = 0; i < 21; i++) {
            Due.is("redo", x.redo(), y.redo());
            Due.is("held(0)", x.held(0), y.held(0));
            Due.is("held(1)", x.held(1), y.held(1));
        }
    }

    /** Exchanges alone, of eight columns, more than are kept. */
    private static void ringOfExchanges() {
        RowWalks x = Told.of("column a 1 gain 0;column b 1 gain 0;column c 1 gain 0;column d 1 gain 0;column e 1 gain 0;"
            + "column f 1 gain 0;column g 1 gain 0;column h 1 gain 1;");
        x.hold(0, 99);
        for (int i = 1; i <= 27; i++) {
            Due.is("better(2)", x.better(2), 2 * i);
        }
        Due.is("acts", x.about(4), 20);
        for (int i = 26; i >= 7; i--) {
            x.undo();
            Due.is("held(0)", x.held(0), 99 - 2 * i);
            Due.is("held(7)", x.held(7), 2 * i);
        }
        Due.is("undo() of the oldest", x.undo(), false);
        for (int i = 8; i <= 27; i++) {
            x.redo();
            Due.is("held(0)", x.held(0), 99 - 2 * i);
            Due.is("held(7)", x.held(7), 2 * i);
        }
    }

    static void held() {
        Due.sentence(Due.TERMS, "a PLAN is HELD (none of any COLUMN at first): a COLUMN so often (0 .. 99)");
        RowWalks x = Told.of(FULL);
        for (int column = 0; column < 8; column++) {
            Due.is("held(" + column + ")", x.held(column), 0);
        }
        Due.sentence(17, "How often a COLUMN is HELD; NONE if there is none such.");
        x.hold(0, 99);
        x.hold(7, 1);
        Due.is("held(0)", x.held(0), 99);
        Due.is("held(7)", x.held(7), 1);
        Due.is("held(8) of eight", x.held(8), NONE);
        Due.refusedBeside(0, 2, "held", NONE, RowWalks::held);
        Due.refused(NEW, "held(0) of no columns", NONE, y -> y.held(0));
    }

    static void holding() {
        Due.sentence(18, "Of the HELD PLAN what 0, 1, 2: SUM in a row, 3: GAIN, 4: how many STEPS, "
            + "5: of all rows together how far SUM is from NEED, without signs.");
        int[] nothing = {0, 0, 0, 0, 0, 41};
        RowWalks x = Told.of(FULL);
        for (int what = 0; what <= 5; what++) {
            Due.is("holding(" + what + ") of nothing", x.holding(what), nothing[what]);
        }
        x = allOf("5", "99", "-20");
        int[] most = {3960, 3960, 3960, 78408, 792, 11940};
        for (int what = 0; what <= 5; what++) {
            Due.is("holding(" + what + ") of the most", x.holding(what), most[what]);
        }
        x = allOf("-5", "-99", "20");
        int[] least = {-3960, -3960, -3960, -78408, 792, 11940};
        for (int what = 0; what <= 5; what++) {
            Due.is("holding(" + what + ") of the least", x.holding(what), least[what]);
        }
        x = Told.of("rows 2;column a 1 -1 gain 0;need 3 3;");
        x.hold(0, 4);
        Due.is("holding(5): 1 too much, 7 too little", x.holding(5), 8);

        Due.sentence(18, "STRANGE if there is no such row, or for another what.");
        Due.refused(NEW, "holding(1) of one row", STRANGE, y -> y.holding(1));
        Due.refused(NEW, "holding(2) of one row", STRANGE, y -> y.holding(2));
        Due.refused("holding(2) of two rows", STRANGE, y -> y.holding(2));
        Due.refusedBeside(0, 5, "holding", STRANGE, RowWalks::holding);
    }

    private static RowWalks allOf(String number, String gain, String need) {
        StringBuilder b = new StringBuilder("rows 3;");
        String three = (number + " ").repeat(3);
        for (char name = 'a'; name <= 'h'; name++) {
            b.append("column ").append(name).append(' ').append(three).append("gain ").append(gain).append(';');
        }
        RowWalks x = Told.of(b + "need " + (need + " ").repeat(3) + ";");
        for (int column = 0; column < 8; column++) {
            x.hold(column, 99);
        }
        return x;
    }

    private static void exchangeIs(RowWalks x, int r, int gained, int giving, int coming, int... more) {
        Due.is("exchange(" + r + ", 0)", x.exchange(r, 0), gained);
        Due.is("exchange(" + r + ", 1)", x.exchange(r, 1), giving);
        Due.is("exchange(" + r + ", 2)", x.exchange(r, 2), coming);
        for (int column = 0; column < more.length; column++) {
            Due.is("exchange(" + r + ", " + (10 + column) + ")", x.exchange(r, 10 + column), more[column]);
        }
    }

    private static RowWalks holding(String text, int... often) {
        RowWalks x = Told.of(text);
        for (int column = 0; column < often.length; column++) {
            x.hold(column, often[column]);
        }
        return x;
    }

    static void exchange() {
        Due.sentence(Due.TERMS, "r STEPS or fewer of the HELD PLAN give way to r or fewer others, by which its SUM stays the same.");
        String text = "column a 1 gain 2;column b 3 gain 7;";
        exchangeIs(holding(text, 3), 3, 1, 3, 1, -3, 1);
        Due.is("three give way: not of 2", holding(text, 3).exchange(2, 0), STRANGE);
        Due.is("three of two", holding(text, 2).exchange(3, 0), STRANGE);
        text = "column a 1 gain 2;column b 3 gain 5;";
        exchangeIs(holding(text, 0, 1), 3, 1, 1, 3, 3, -1);
        Due.is("three others: not of 2", holding(text, 0, 1).exchange(2, 0), STRANGE);
        exchangeIs(holding("column a 0 gain 1;"), 1, 1, 0, 1, 1);
        exchangeIs(holding("column a 0 gain -1;", 9), 2, 2, 2, 0, -2);
        // row 2 alone tells them apart
        Due.is("another sum", holding("rows 3;column a 1 2 3 gain 0;column b 1 2 4 gain 9;", 5).exchange(3, 0), STRANGE);
        Due.is("another sum", holding("rows 2;column a 1 3 gain 0;column b 1 4 gain 9;", 5).exchange(3, 0), STRANGE);
        Due.is("another sum", holding("rows 2;column a 1 5 gain 0;column b 2 -5 gain 9;", 5).exchange(3, 0), STRANGE);
        // the farthest sums: 15 and -15 in each row
        exchangeIs(holding("rows 3;column a 5 -5 5 gain 0;column b 5 -5 5 gain 1;", 3), 3, 3, 3, 3, -3, 3);

        Due.is("a, which is not held", holding("column a 1 gain 0;column b 1 gain 9;").exchange(3, 0), STRANGE);
        Due.is("b, which is not held", holding("column a 1 gain 9;column b 1 gain 0;").exchange(3, 0), STRANGE);
        Due.is("b twice, which is held once",
            holding("column a 4 gain 9;column b 2 gain 0;", 0, 1).exchange(3, 0), STRANGE);
        RowWalks x = holding("column a 1 gain 0;column b 1 gain 9;", 9);
        for (int r : new int[] {1, 2, 3, 1, 3, 2}) {
            exchangeIs(x, r, 9 * r, r, r, -r, r);
        }

        Due.sentence(Due.TERMS, "(No COLUMN is HELD more than 99 times by it.)");
        text = "column a 1 gain 0;column b 1 gain 9;column c 1 gain 4;";
        exchangeIs(holding(text, 3, 96), 3, 27, 3, 3, -3, 3, 0);
        exchangeIs(holding(text, 3, 97), 3, 22, 3, 3, -3, 2, 1);
        exchangeIs(holding(text, 3, 98), 3, 17, 3, 3, -3, 1, 2);
        exchangeIs(holding(text, 3, 99), 3, 12, 3, 3, -3, 0, 3);
        exchangeIs(holding(text, 99, 99, 99), 3, STRANGE, STRANGE, STRANGE);
        exchangeIs(holding(text, 99, 98, 99), 3, 9, 1, 1, -1, 1, 0);
        Due.is("99 of all", holding("column a 0 gain 1;", 99).better(3), STRANGE);
        Due.is("98 of all", holding("column a 0 gain 1;", 98).better(3), 99);

        Due.sentence(Due.TERMS, "The best one has the greatest GAIN (more than 0)");
        exchangeIs(holding("column a 1 gain 0;column b 1 gain 1;column c 1 gain 2;", 1), 1, 2, 1, 1, -1, 0, 1);
        Due.is("gain 0", holding("column a 1 gain 5;column b 1 gain 5;", 3).exchange(3, 0), STRANGE);
        Due.is("gain below 0", holding("column a 1 gain 5;column b 1 gain 4;", 3).exchange(3, 0), STRANGE);
        exchangeIs(holding("column a 1 gain -99;column b 1 gain 99;", 3), 3, 594, 3, 3, -3, 3);
        ties();
        whats();
    }

    private static void ties() {
        Due.sentence(Due.TERMS, "of like ones the fewest that give way");
        // one of a for two of b, or two of a for one of c
        exchangeIs(holding("column a 2 gain 0;column b 1 gain 2;column c 4 gain 4;", 2), 2, 4, 1, 2, -1, 2, 0);
        Due.sentence(Due.TERMS, "then the fewest others");
        exchangeIs(holding("column a 2 gain 0;column b 1 gain 2;column c 2 gain 4;", 1), 2, 4, 1, 1, -1, 0, 1);
        Due.sentence(Due.TERMS, "then the FIRST PLAN of those that give way");
        exchangeIs(holding("column a 1 gain 0;column b 1 gain 0;column c 1 gain 3;", 1, 1), 1, 3, 1, 1, -1, 0, 1);
        exchangeIs(holding("column a 1 gain 0;column b 2 gain 0;column c 3 gain 0;column d 4 gain 0;column e 5 gain 7;",
            1, 1, 1, 1), 2, 7, 2, 1, -1, 0, 0, -1, 1);
        // of those that give way the first, though the others of another pair are before its others
        exchangeIs(holding("column a 2 gain 3;column b 1 gain 3;column c 1 gain 0;column d 2 gain 0;", 0, 0, 1, 1),
            1, 3, 1, 1, 0, 1, -1, 0);
        Due.sentence(Due.TERMS, "then of the others.");
        exchangeIs(holding("column a 1 gain 0;column b 1 gain 3;column c 1 gain 3;", 1), 1, 3, 1, 1, -1, 1, 0);
        exchangeIs(holding("column a 5 gain 0;column b 2 gain 3;column c 3 gain 4;column d 1 gain 2;column e 4 gain 5;", 1),
            2, 7, 1, 2, -1, 1, 1, 0, 0);
    }

    private static void whats() {
        Due.sentence(19, "10 and a COLUMN: by how much more often it is HELD then (below 0: less).");
        RowWalks x = holding(FULL.replace("h -4 -5 5 gain 7", "h 1 1 1 gain 7"), 0, 0, 3);
        exchangeIs(x, 3, 18, 3, 3, 0, 0, -3, 0, 0, 0, 0, 3);
        Due.is("exchange(3, 18) of eight columns", x.exchange(3, 18), STRANGE);

        Due.sentence(19, "STRANGE if there is none, or for another what, r.");
        Due.is("exchange(1, 0) of a busy object", Due.busy().exchange(1, 0), 1);
        Due.refusedBeside(1, 3, "exchange of r", STRANGE, (y, v) -> y.exchange(v, 0));
        Due.refusedBeside(10, 12, "exchange what", STRANGE, (y, v) -> y.exchange(1, v));
        for (int what : new int[] {-1, 3, 4, 8, 9, LEAST + 9, LEAST + 10, LEAST + 11, MOST - 10}) {
            Due.refused("exchange what " + what, STRANGE, y -> y.exchange(1, what));
        }
        for (int what : new int[] {0, 1, 2, 10}) {
            Due.refused(NEW, "exchange of no columns, what " + what, STRANGE, y -> y.exchange(3, what));
            Due.refused(EdgesOfHands::likeGains, "exchange that gains nothing, what " + what, STRANGE,
                y -> y.exchange(3, what));
        }
    }

    static void image() {
        Due.sentence(45, "COLUMNS, gains, NEED, steps, what is HELD are kept in a BOX 0, 1: how many COLUMNS");
        RowWalks x = Told.of(FULL);
        Due.is("image(0)", x.image(0), 8);
        Due.is("image(1)", x.image(1), 8);
        Due.is("image(0) of no columns", new RowWalks().image(0), 0);
        x = Due.busy();
        x.image(0);
        Due.is("acts that can be undone stay", x.about(4), 6);
        Due.is("acts that can be redone stay", x.about(5), 1);
        x.hold(0, 50);
        x.image(0);
        x.hold(0, 60);
        x.back(0);
        Due.is("held(0): the latest image", x.held(0), 50);

        Due.sentence(45, "NONE if there is none such.");
        Due.refusedBeside(0, 1, "image", NONE, RowWalks::image);

        Due.sentence(46, "All is as it was kept (no ACTS are kept then): how many COLUMNS");
        back();

        Due.sentence(46, "NONE, doing nothing, if nothing was, or there is no such BOX.");
        Due.refusedBeside(0, 1, "back", NONE, RowWalks::back);
        Due.refused(NEW, "back(0) of nothing", NONE, y -> y.back(0));
        Due.refused(NEW, "back(1) of nothing", NONE, y -> y.back(1));
        Due.refused(() -> boxed(0), "back(1), the other was filled", NONE, y -> y.back(1));
        Due.refused(() -> boxed(1), "back(0), the other was filled", NONE, y -> y.back(0));
    }

    private static RowWalks boxed(int box) {
        RowWalks x = Told.of("column a 1 gain 1;");
        x.hold(0, 4);
        x.image(box);
        x.hold(0, 5);
        x.hold(0, 6);
        x.undo();
        return x;
    }

    private static void back() {
        for (int box = 0; box <= 1; box++) {
            RowWalks x = Told.of(FULL);
            x.hold(7, 9);
            x.image(box);
            x.change(7, 2, 1);
            x.worth(7, 2);
            x.want(2, 3);
            x.allow(4);
            x.hold(7, 5);
            x.undo();
            x.later(3);
            x.seen(1, 1, 1, 1, true);
            x.feed(0, 0, 0, 0, 0);
            Due.is("back(" + box + ")", x.back(box), 8);
            Due.is("number(7, 2)", x.number(7, 2), 5);
            Due.is("gain(7)", x.gain(7), 7);
            Due.is("need(2)", x.need(2), 1);
            Due.is("steps", x.about(2), 12);
            Due.is("held(7)", x.held(7), 9);
            Due.is("undo()", x.undo(), false);
            Due.is("redo()", x.redo(), false);
            Due.is("seen, time, bytes stay", x.about(6) * 10000 + x.about(7) * 100 + x.about(8), 10320);
            x.hold(7, 8);
            Due.is("back() once more", x.back(box), 8);
            Due.is("held(7)", x.held(7), 9);
            Due.is("the other box", x.back(1 - box), NONE);
        }
        RowWalks x = new RowWalks();
        x.image(0);
        x.allow(2);
        Due.is("back(0) of no columns", x.back(0), 0);
        Due.is("steps", x.about(2), 8);
    }

    static void about() {
        Due.sentence(47, "What 0: rows, 1: COLUMNS, 2: steps");
        Due.is("rows, the fewest", Told.of("rows 1;steps 1;").about(0), 1);
        Due.is("columns, the fewest", Told.of("rows 1;steps 1;").about(1), 0);
        Due.is("steps, the fewest", Told.of("rows 1;steps 1;").about(2), 1);
        Due.is("rows, the most", Told.of(FULL).about(0), 3);
        Due.is("columns, the most", Told.of(FULL).about(1), 8);
        Due.is("steps, the most", Told.of(FULL).about(2), 12);

        Due.sentence(47, "3: the greatest number of a COLUMN without sign (0)");
        Due.is("of no columns", new RowWalks().about(3), 0);
        Due.is("of 0 alone", Told.of("column a 0 gain 99;need 20;").about(3), 0);
        Due.is("of eight columns, not of what they gain", Told.of(FULL).about(3), 5);
        RowWalks x = Told.of("rows 3;column a 1 1 1 gain 1;column b 1 2 -5 gain 1;column c 4 1 1 gain 1;");
        Due.is("of -5", x.about(3), 5);
        x.change(1, 2, 0);
        Due.is("of 4", x.about(3), 4);
        x.undo();
        Due.is("of -5 again", x.about(3), 5);
        Told.program(x, "column a -1 gain 9;");
        Due.is("of another text", x.about(3), 1);

        Due.sentence(47, "4: ACTS that can be undone, 5: redone, 6: what is SEEN, 7: the TIME, 8: bytes on the TAPE.");
        x = Told.of(EMPTY);
        for (int i = 0; i < 25; i++) {
            x.allow(1 + i % 2);
            x.seen(0, 0, 0, 0, true);
            x.feed(0, 0, 0, 0, 0);
        }
        Due.is("about(4)", x.about(4), 20);
        for (int i = 0; i < 20; i++) {
            x.undo();
        }
        Due.is("about(4)", x.about(4), 0);
        Due.is("about(5)", x.about(5), 20);
        Due.is("about(6)", x.about(6), 20);
        for (int i = 0; i < 20; i++) {
            x.feed(0, 0, 0, 0, 0);
        }
        Due.is("about(8)", x.about(8), 700);
        for (int i = 0; i < 110; i++) {
            x.later(1000);
        }
        Due.is("about(7)", x.about(7), 100000);

        Due.sentence(47, "NONE for another what.");
        Due.refusedBeside(0, 8, "about", NONE, RowWalks::about);
    }

    static void all() {
        looks();
        change();
        worth();
        want();
        allow();
        hold();
        better();
        undo();
        held();
        holding();
        exchange();
        image();
        about();
    }
}
