/** Each promise by itself: ordinary inputs, the edges that the document names, wrong inputs. */
public final class PromisesTest {
    private static final int NONE = -1;
    private static final int STRANGE = -1000001;
    private static int promise = 0;
    private static int wrong = 0;

    private static final String LINE = "rows 1;column up 2 gain 3;column dn -1 gain 1;need 3;steps 4;";
    private static final String SQUARE =
        "rows 2;column a 1 0 gain 2;column b 0 1 gain 1;column c 1 1 gain 4;need 2 1;steps 3;";
    private static final String CUBE =
        "rows 3;column a 1 0 0 gain 1;column b 0 2 0 gain 1;column c 0 0 3 gain 1;column d 1 1 1 gain -2;need 1 1 1;";

    private static void due(String call, long got, long want) {
        if (got != want) {
            wrong++;
            System.out.println("promise " + promise + ": " + call + " answered " + got + ", due is " + want);
        }
    }

    private static void due(String call, boolean got, boolean want) {
        due(call, got ? 1 : 0, want ? 1 : 0);
    }

    private static void fault(String text, int kind, int place) {
        RowWalks x = new RowWalks();
        due("program of '" + text + "'", Told.program(x, text), NONE);
        due("fault(0) of '" + text + "'", x.fault(0), kind);
        due("fault(1) of '" + text + "'", x.fault(1), place);
        due("bytes behind '" + text + "'", x.about(8), 0);
    }

    private static void fine(String text, int columns) {
        RowWalks x = new RowWalks();
        due("program of '" + text + "'", Told.program(x, text), columns);
        due("fault(0) of '" + text + "'", x.fault(0), 0);
        due("fault(1) of '" + text + "'", x.fault(1), NONE);
    }

    private static void newObject() {
        promise = 1;
        RowWalks x = new RowWalks();
        int[] about = {1, 0, 8, 0, 0, 0, 0, 0, 0};
        for (int what = 0; what < about.length; what++) {
            due("about(" + what + ")", x.about(what), about[what]);
        }
        due("need(0)", x.need(0), 0);
        due("need(1)", x.need(1), STRANGE);
        due("number(0, 0)", x.number(0, 0), STRANGE);
        due("fault(0)", x.fault(0), 0);
        due("fault(1)", x.fault(1), NONE);
    }

    private static void tape() {
        promise = 2;
        RowWalks x = new RowWalks();
        for (int i = 1; i <= 35; i++) {
            due("feed", x.feed(0x20202020, 0x20202020, 0x0A0A0A0A, 0x20202020, 0x20202020), 20 * i);
        }
        due("feed of 720", x.feed(0, 0, 0, 0, 0), NONE);
        due("bytes", x.about(8), 700);
        due("program of blanks", x.program(), 0);
        x.feed(0x726F7773, 0x20323B20, 0x20202020, 0x20202020, 0x20202020);
        due("program", x.program(), 0);
        due("rows: the highest byte first", x.about(0), 2);
        x.feed(0x80202020, 0, 0, 0, 0);
        due("program of byte 128", x.program(), NONE);
        due("its place", x.fault(1), 0);

        promise = 3;
        x.feed(0, 0, 0, 0, 0);
        due("end(21)", x.end(21), NONE);
        due("end(-1)", x.end(-1), NONE);
        due("end of the least", x.end(Integer.MIN_VALUE), NONE);
        due("bytes", x.about(8), 20);
        due("end(20)", x.end(20), 20);
        due("end(7)", x.end(7), 7);
        due("end(8)", x.end(8), NONE);
        due("end(0)", x.end(0), 0);
        due("bytes", x.about(8), 0);
    }

    private static void program() {
        promise = 4;
        RowWalks x = Told.of(LINE);
        x.hold(0, 3);
        x.image(0);
        x.later(5);
        x.seen(1, 1, 0, 0, true);
        due("program of a fault", Told.program(x, "rows 9;"), NONE);
        due("columns stay", x.about(1), 2);
        due("held stays", x.held(0), 3);
        due("acts stay", x.about(4), 1);
        due("seen stays", x.about(6), 1);
        due("box stays", x.back(0), 2);
        x.hold(0, 4);
        due("program", Told.program(x, SQUARE), 3);
        due("held", x.held(0), 0);
        due("acts", x.about(4), 0);
        due("undo()", x.undo(), false);
        due("seen", x.about(6), 0);
        due("box", x.back(0), NONE);
        due("time stays", x.about(7), 5);
        due("rows", x.about(0), 2);
        due("steps", x.about(2), 3);
        due("empty program", x.program(), 0);
        due("rows", x.about(0), 1);
        due("steps", x.about(2), 8);
        fine("need 3;column rowsx 1 gain 2;steps 1;", 1);
        fine("column\na-5 gain-99;column b5 gain 99;need-20;steps012;", 2);
        fine("column az 1 gain 1;column za 1 gain 1;", 2);
        fine("rows 001;column abcdefgh -0 gain 000;need 020;", 1);
    }

    private static void faults() {
        promise = 5;
        fault("rows", 2, 4);
        fault("rows ", 2, 5);
        fault("rows;", 2, 4);
        fault("rows -1;", 2, 5);
        fault("rows 0;", 4, 5);
        fault("rows 4;", 4, 5);
        fault("rows 2 2;", 2, 7);
        fault("need 1;rows 1;", 2, 7);
        fault("rows 1;rows 1;", 2, 7);
        fault(";", 2, 0);
        fault("7", 2, 0);
        fault("gain 7;", 2, 0);
        fault("Rows 1;", 1, 0);
        fault(" \t", 1, 1);
        fault("columns a 1 gain 1;", 2, 0);
        fault("column gain 1 gain 1;", 2, 7);
        fault("column rows 1 gain 1;", 2, 7);
        fault("column column 1 gain 1;", 2, 7);
        fault("column need 1 gain 1;", 2, 7);
        fault("column steps 1 gain 1;", 2, 7);
        fault("column 1 1 gain 1;", 2, 7);
        fault("column a gain 1;", 2, 9);
        fault("column a 1 2 gain 1;", 2, 11);
        fault("column a 1 -2 gain 1;", 2, 11);
        fault("rows 2;column a 1 gain 1;", 2, 18);
        fault("column a 6 gain 1;", 4, 9);
        fault("column a - 6 gain 1;", 4, 11);
        fault("column a - gain 1;", 2, 11);
        fault("column a --1 gain 1;", 2, 10);
        fault("column a 1 gain 100;", 4, 16);
        fault("column a 1 gain -100;", 4, 17);
        fault("column a 1 gain;", 2, 15);
        fault("column a 1 gain 1", 2, 17);
        fault("column a 1 gain 1 2;", 2, 18);
        fault("column a 1 gain 1;column a 1 gain 1;", 3, 25);
        fault("column a 1 gain 1;column a", 3, 25);
        fault("need 1;need 1;", 3, 7);
        fault("steps 1;steps 1;", 3, 8);
        fault("need;", 2, 4);
        fault("need 21;", 4, 5);
        fault("need -21;", 4, 6);
        fault("need 1 21;", 2, 7);
        fault("steps 0;", 4, 6);
        fault("steps 13;", 4, 6);
        fault("steps 1a;", 1, 6);
        fault("need 1234;", 1, 5);
        fault("column abcdefghi 1 gain 1;", 1, 7);
        fault("need 21;?", 4, 5);
        fault("need 1?;", 1, 6);
        StringBuilder many = new StringBuilder();
        for (int i = 0; i < 9; i++) {
            many.append("column c").append((char) ('a' + i)).append(" 1 gain 1;");
        }
        fault(many.toString(), 2, 8 * 19);
        fine(many.substring(0, 8 * 19), 8);
        RowWalks x = new RowWalks();
        due("fault(2)", x.fault(2), NONE);
        due("fault(-1)", x.fault(-1), NONE);
        Told.program(x, "rows 9;");
        x.program();
        due("fault(0) of the latest", x.fault(0), 0);
        due("fault(1) of the latest", x.fault(1), NONE);
    }

    private static void looks() {
        RowWalks x = Told.of("rows 2;column a 1 -2 gain -9;column b 0 5 gain 99;need -20 20;steps 12;");
        promise = 6;
        due("number(0, 0)", x.number(0, 0), 1);
        due("number(0, 1)", x.number(0, 1), -2);
        due("number(1, 1)", x.number(1, 1), 5);
        due("number(2, 0)", x.number(2, 0), STRANGE);
        due("number(-1, 0)", x.number(-1, 0), STRANGE);
        due("number(0, 2)", x.number(0, 2), STRANGE);
        due("number(0, -1)", x.number(0, -1), STRANGE);
        promise = 7;
        due("gain(0)", x.gain(0), -9);
        due("gain(1)", x.gain(1), 99);
        due("gain(2)", x.gain(2), STRANGE);
        due("gain(-1)", x.gain(-1), STRANGE);
        promise = 8;
        due("need(0)", x.need(0), -20);
        due("need(1)", x.need(1), 20);
        due("need(2)", x.need(2), STRANGE);
        due("need(-1)", x.need(-1), STRANGE);
    }

    private static void turns() {
        RowWalks x = Told.of(SQUARE);
        promise = 9;
        due("change(0, 1, 5)", x.change(0, 1, 5), 0);
        due("change(0, 1, 5)", x.change(0, 1, 5), STRANGE);
        due("change(0, 1, 6)", x.change(0, 1, 6), STRANGE);
        due("change(0, 1, -5)", x.change(0, 1, -5), 5);
        due("change(0, 1, -6)", x.change(0, 1, -6), STRANGE);
        due("change(3, 0, 1)", x.change(3, 0, 1), STRANGE);
        due("change(0, 2, 1)", x.change(0, 2, 1), STRANGE);
        due("number(0, 1)", x.number(0, 1), -5);
        due("acts", x.about(4), 2);
        promise = 10;
        due("worth(2, -99)", x.worth(2, -99), 4);
        due("worth(2, -99)", x.worth(2, -99), STRANGE);
        due("worth(2, 100)", x.worth(2, 100), STRANGE);
        due("worth(3, 1)", x.worth(3, 1), STRANGE);
        due("gain(2)", x.gain(2), -99);
        promise = 11;
        due("want(1, 20)", x.want(1, 20), 1);
        due("want(1, 20)", x.want(1, 20), STRANGE);
        due("want(1, 21)", x.want(1, 21), STRANGE);
        due("want(1, -21)", x.want(1, -21), STRANGE);
        due("want(2, 0)", x.want(2, 0), STRANGE);
        due("need(1)", x.need(1), 20);
        promise = 12;
        due("allow(12)", x.allow(12), 3);
        due("allow(12)", x.allow(12), STRANGE);
        due("allow(13)", x.allow(13), STRANGE);
        due("allow(0)", x.allow(0), STRANGE);
        due("allow(1)", x.allow(1), 12);
        due("steps", x.about(2), 1);
        promise = 13;
        due("hold(0, 99)", x.hold(0, 99), 0);
        due("hold(0, 99)", x.hold(0, 99), NONE);
        due("hold(0, 100)", x.hold(0, 100), NONE);
        due("hold(0, -1)", x.hold(0, -1), NONE);
        due("hold(3, 1)", x.hold(3, 1), NONE);
        due("hold(0, 0)", x.hold(0, 0), 99);
        due("acts", x.about(4), 8);
    }

    private static void exchanges() {
        promise = 14;
        RowWalks x = Told.of(SQUARE);
        x.hold(0, 2);
        x.hold(1, 2);
        due("better(0)", x.better(0), STRANGE);
        due("better(4)", x.better(4), STRANGE);
        due("better(1)", x.better(1), STRANGE);
        due("better(2)", x.better(2), 7);
        due("held(2)", x.held(2), 1);
        due("better(3)", x.better(3), 8);
        due("held(0)", x.held(0), 0);
        due("better(3)", x.better(3), STRANGE);
        due("acts", x.about(4), 4);
        due("undo()", x.undo(), true);
        due("held(0) again", x.held(0), 1);
        due("redo()", x.redo(), true);
        due("held(2) again", x.held(2), 2);
        promise = 17;
        due("held(3)", x.held(3), NONE);
        due("held(-1)", x.held(-1), NONE);
        promise = 18;
        x.hold(0, 3);
        due("holding(0)", x.holding(0), 5);
        due("holding(1)", x.holding(1), 2);
        due("holding(2)", x.holding(2), STRANGE);
        due("holding(3)", x.holding(3), 14);
        due("holding(4)", x.holding(4), 5);
        due("holding(5)", x.holding(5), 4);
        due("holding(6)", x.holding(6), STRANGE);
        due("holding(-1)", x.holding(-1), STRANGE);
        promise = 19;
        x = Told.of("column a 1 gain 1;column b 1 gain 3;column c 2 gain 4;column d 0 gain -1;column e -1 gain -3;");
        x.hold(0, 2);
        x.hold(3, 1);
        due("exchange(1, 0)", x.exchange(1, 0), 2);
        due("exchange(1, 10)", x.exchange(1, 10), -1);
        due("exchange(1, 11)", x.exchange(1, 11), 1);
        due("exchange(2, 0)", x.exchange(2, 0), 4);
        due("exchange(2, 1)", x.exchange(2, 1), 2);
        due("exchange(2, 2)", x.exchange(2, 2), 2);
        due("exchange(2, 10)", x.exchange(2, 10), -2);
        due("exchange(2, 11)", x.exchange(2, 11), 2);
        due("exchange(2, 13)", x.exchange(2, 13), 0);
        due("exchange(3, 0)", x.exchange(3, 0), 5);
        due("exchange(3, 1)", x.exchange(3, 1), 3);
        due("exchange(3, 13)", x.exchange(3, 13), -1);
        due("exchange(3, 15)", x.exchange(3, 15), STRANGE);
        due("exchange(3, 3)", x.exchange(3, 3), STRANGE);
        due("exchange(3, 9)", x.exchange(3, 9), STRANGE);
        due("exchange(3, -1)", x.exchange(3, -1), STRANGE);
        due("exchange(3, least)", x.exchange(3, Integer.MIN_VALUE), STRANGE);
        due("exchange(0, 0)", x.exchange(0, 0), STRANGE);
        x.hold(1, 99);
        due("no column is held more than 99 times", x.exchange(1, 10), 0);
        due("exchange(1, 13)", x.exchange(1, 13), -1);
        x = Told.of("column a 0 gain 1;");
        due("none give way to others", x.exchange(3, 0), 3);
        due("exchange(3, 1)", x.exchange(3, 1), 0);
        due("exchange(3, 2)", x.exchange(3, 2), 3);
        x.hold(0, 98);
        due("but 99 is the most", x.exchange(3, 2), 1);
        due("better(3)", x.better(3), 99);
        due("better(3)", x.better(3), STRANGE);
    }

    private static void takingBack() {
        promise = 15;
        RowWalks x = Told.of(LINE);
        due("undo() of none", x.undo(), false);
        for (int i = 1; i <= 25; i++) {
            x.hold(0, i);
        }
        due("acts", x.about(4), 20);
        for (int i = 0; i < 20; i++) {
            due("undo()", x.undo(), true);
        }
        due("undo() of the oldest", x.undo(), false);
        due("held(0)", x.held(0), 5);
        due("to be redone", x.about(5), 20);
        promise = 16;
        for (int i = 0; i < 20; i++) {
            due("redo()", x.redo(), true);
        }
        due("redo() of none", x.redo(), false);
        due("held(0)", x.held(0), 25);
        x.undo();
        x.undo();
        due("held(0)", x.held(0), 23);
        x.change(0, 0, 4);
        due("redo() behind another act", x.redo(), false);
        due("acts", x.about(4), 19);
        x.undo();
        due("number(0, 0)", x.number(0, 0), 2);
        x.worth(1, 7);
        x.want(0, 9);
        x.allow(9);
        x.undo();
        x.undo();
        x.undo();
        due("gain(1)", x.gain(1), 1);
        due("need(0)", x.need(0), 3);
        due("steps", x.about(2), 4);
        x.redo();
        x.redo();
        x.redo();
        due("gain(1)", x.gain(1), 7);
        due("need(0)", x.need(0), 9);
        due("steps", x.about(2), 9);
        x.allow(9);
        due("what does nothing is no act", x.about(4), 20);
    }

    private static void strips() {
        RowWalks x = Told.of(LINE);
        promise = 20;
        due("strip(3, 1, 0)", x.strip(3, 1, 0), 1);
        due("strip(3, 0, 0)", x.strip(3, 0, 0), 0);
        due("strip(3, 1, 1)", x.strip(3, 1, 1), 4);
        due("strip(3, 12, 1)", x.strip(3, 12, 1), 10);
        due("strip(0, 12, 0)", x.strip(0, 12, 0), 0);
        due("strip(0, 12, 1)", x.strip(0, 12, 1), 1);
        due("strip(3, 1, 2)", x.strip(3, 1, 2), NONE);
        due("strip(13, 1, 0)", x.strip(13, 1, 0), NONE);
        due("strip(-1, 1, 0)", x.strip(-1, 1, 0), NONE);
        due("strip(3, 13, 0)", x.strip(3, 13, 0), NONE);
        due("strip(3, -1, 0)", x.strip(3, -1, 0), NONE);
        promise = 21;
        due("walks(3, 0)", x.walks(3, 0), 0);
        due("walks(3, 1)", x.walks(3, 1), 1);
        due("walks(3, 2)", x.walks(3, 2), 3);
        due("walks(3, 13)", x.walks(3, 13), -1);
        due("walks(-1, 0)", x.walks(-1, 0), -1);
        StringBuilder eight = new StringBuilder();
        for (int i = 0; i < 8; i++) {
            eight.append("column c").append((char) ('a' + i)).append(" 0 gain ").append(i / 2).append(';');
        }
        RowWalks y = Told.of(eight.toString());
        due("walks(12, 0) of eight", y.walks(12, 0), 1L << 36);
        promise = 22;
        due("best(3, 1)", x.best(3, 1), 7);
        due("best(3, 0)", x.best(3, 0), STRANGE);
        due("best(0, 0)", x.best(0, 0), STRANGE);
        due("best(13, 0)", x.best(13, 0), STRANGE);
        due("best(12, 12) of eight", y.best(12, 12), 36);
        promise = 23;
        due("step(3, 2, 0)", x.step(3, 2, 0), 0);
        due("step(3, 2, 1)", x.step(3, 2, 1), 0);
        due("step(3, 2, 2)", x.step(3, 2, 2), 1);
        due("step(3, 1, 1)", x.step(3, 1, 1), 1);
        due("step(3, 1, 3)", x.step(3, 1, 3), NONE);
        due("step(3, 1, -1)", x.step(3, 1, -1), NONE);
        due("step(3, 0, 0)", x.step(3, 0, 0), NONE);
        due("step(3, 13, 0)", x.step(3, 13, 0), NONE);
        due("step(12, 0, 11) of eight: the least of like ones", y.step(12, 0, 11), 6);
        promise = 24;
        due("narrow(3)", x.narrow(3), 1);
        due("narrow(4)", x.narrow(4), NONE);
        due("narrow(0)", x.narrow(0), NONE);
        due("narrow(13)", x.narrow(13), NONE);
        due("narrow(15), by which a plan leads", x.narrow(15), NONE);
        due("narrow(-1)", x.narrow(-1), NONE);
        due("narrow(8) of wide columns", Told.of("rows 3;column a -5 -5 5 gain 1;column b 5 -4 -5 gain 1;"
            + "column c 5 5 5 gain 1;column d -5 5 -5 gain 1;need 0 2 0;").narrow(8), 10);
        due("narrow(0) of no need", new RowWalks().narrow(0), 0);
        promise = 25;
        due("fewest()", x.fewest(), 3);
        due("fewest() by more than 12", Told.of("column a 1 gain 1;need 13;").fewest(), NONE);
        due("fewest() however many are allowed", Told.of("column a 1 gain 1;need 12;steps 1;").fewest(), 12);
        due("fewest() of no need", Told.of("column a 1 gain 1;").fewest(), 0);
    }

    private static void bestPlan() {
        RowWalks x = Told.of(SQUARE);
        promise = 26;
        due("optimum(0)", x.optimum(0), 6);
        due("optimum(1)", x.optimum(1), 2);
        due("optimum(2)", x.optimum(2), STRANGE);
        due("optimum(-1)", x.optimum(-1), STRANGE);
        x.allow(1);
        due("optimum(0) of one step", x.optimum(0), STRANGE);
        x.allow(3);
        x.worth(2, 3);
        due("of like gains the fewest steps", x.optimum(1), 2);
        promise = 27;
        due("plan(0)", x.plan(0), 1);
        due("plan(1)", x.plan(1), 0);
        due("plan(2)", x.plan(2), 1);
        due("plan(3)", x.plan(3), NONE);
        due("plan(-1)", x.plan(-1), NONE);
        due("of like ones the first", Told.of("column a 1 gain 1;column b 1 gain 1;need 2;").plan(0), 2);
        due("plan(0) of none", Told.of("column a 1 gain 1;need 9;").plan(0), NONE);
        promise = 28;
        due("plans(2)", x.plans(2), 1);
        due("plans(3)", x.plans(3), 1);
        due("plans(4)", x.plans(4), 0);
        due("plans(12)", x.plans(12), 0);
        due("plans(13)", x.plans(13), NONE);
        due("plans(15) of a sum that they have", Told.of(LINE).plans(15), NONE);
        due("plans(-1)", x.plans(-1), NONE);
        due("plans(0) of no need", new RowWalks().plans(0), 1);
        promise = 29;
        RowWalks y = Told.of("column a 2 gain 3;column b -1 gain 1;column c 1 gain 5;need 3;steps 5;");
        due("optimum(1)", y.optimum(1), 5);
        int[] order = {2, 2, 1, 2, 2};
        due("plan(1)", y.plan(1), 1);
        due("plan(2)", y.plan(2), 4);
        promise = 30;
        due("strays()", y.strays(), 4);
        promise = 29;
        for (int i = 0; i < 5; i++) {
            due("order(" + i + ")", y.order(i), order[i]);
        }
        due("of like ones the first", Told.of("rows 2;column a 0 1 gain 1;column b 1 0 gain 1;need 1 1;").order(0), 0);
        due("order(5)", y.order(5), NONE);
        due("order(-1)", y.order(-1), NONE);
        promise = 31;
        due("sorted()", y.sorted(), 8);
        RowWalks none = Told.of("column a 1 gain 1;need 9;");
        promise = 29;
        due("order(0) of none", none.order(0), NONE);
        promise = 30;
        due("strays() of none", none.strays(), NONE);
        promise = 31;
        due("sorted() of none", none.sorted(), NONE);
    }

    private static void doublings() {
        promise = 32;
        RowWalks x = Told.of(LINE);
        due("doubled(0, 3, 0)", x.doubled(0, 3, 0), 2);
        due("doubled(0, 3, 5)", x.doubled(0, 3, 5), 0);
        due("doubled(0, 3, 1)", x.doubled(0, 3, 1), NONE);
        due("doubled(2, 2, 1)", x.doubled(2, 2, 1), 3);
        due("doubled(2, 2, 2)", x.doubled(2, 2, 2), 4);
        due("doubled(2, 2, 5)", x.doubled(2, 2, 5), 1);
        due("doubled(2, 2, 6)", x.doubled(2, 2, 6), NONE);
        due("doubled(2, 2, -1)", x.doubled(2, 2, -1), NONE);
        due("doubled(5, 2, 0)", x.doubled(5, 2, 0), NONE);
        due("doubled(-1, 2, 0)", x.doubled(-1, 2, 0), NONE);
        due("doubled(2, 4, 0)", x.doubled(2, 4, 0), NONE);
        due("doubled(2, -1, 0)", x.doubled(2, -1, 0), NONE);
        due("like columns count once", Told.of("column a 1 gain 1;column b 1 gain 2;").doubled(0, 1, 0), 2);
    }

    private static void fractions() {
        RowWalks x = Told.of("column a 2 gain 3;column b 4 gain 6;column c 5 gain 1;need 3;");
        promise = 33;
        due("relaxed(0)", x.relaxed(0), 9);
        due("relaxed(1)", x.relaxed(1), 2);
        due("relaxed(2): the least set", x.relaxed(2), 1);
        due("relaxed(3)", x.relaxed(3), 0);
        due("relaxed(4)", x.relaxed(4), STRANGE);
        due("relaxed(-1)", x.relaxed(-1), STRANGE);
        RowWalks endless = Told.of(LINE);
        due("relaxed(3) endless", endless.relaxed(3), 1);
        due("relaxed(2) endless", endless.relaxed(2), STRANGE);
        RowWalks none = Told.of("column a -1 gain 1;need 3;");
        due("relaxed(3) of none", none.relaxed(3), STRANGE);
        due("relaxed(0) of none", none.relaxed(0), STRANGE);
        due("a column of 0 that gains", Told.of("column a 0 gain 1;").relaxed(3), 1);
        due("a column of 0 that gains nothing", Told.of("column a 0 gain 0;").relaxed(3), 0);
        RowWalks y = Told.of(CUBE);
        due("relaxed(0)", y.relaxed(0), 11);
        due("relaxed(1)", y.relaxed(1), 6);
        due("relaxed(2)", y.relaxed(2), 7);
        promise = 34;
        due("fraction(0, 0)", y.fraction(0, 0), 1);
        due("fraction(0, 1)", y.fraction(0, 1), 1);
        due("fraction(1, 1)", y.fraction(1, 1), 2);
        due("fraction(2, 0)", y.fraction(2, 0), 1);
        due("fraction(2, 1)", y.fraction(2, 1), 3);
        due("fraction(3, 0)", y.fraction(3, 0), 0);
        due("fraction(3, 1)", y.fraction(3, 1), 1);
        due("fraction(4, 0)", y.fraction(4, 0), STRANGE);
        due("fraction(0, 2)", y.fraction(0, 2), STRANGE);
        due("fraction(0, -1)", y.fraction(0, -1), STRANGE);
        due("fraction(0, 0) endless", endless.fraction(0, 0), STRANGE);
        due("fraction(0, 0) of none", none.fraction(0, 0), STRANGE);
        promise = 35;
        due("apart(0)", y.apart(0), 17);
        due("apart(1)", y.apart(1), 6);
        due("apart(2)", y.apart(2), STRANGE);
        due("apart(0) endless", endless.apart(0), STRANGE);
        due("apart(0) without an optimum", Told.of("column a 2 gain 1;need 3;").apart(0), STRANGE);
        promise = 36;
        due("corners()", x.corners(), 3);
        due("corners() endless", endless.corners(), 1);
        due("corners() of none", none.corners(), 0);
        due("corners() of three rows", y.corners(), 2);
        due("corners() of no need", Told.of("column a 1 gain 1;column b -1 gain 1;").corners(), 1);
        due("like columns", Told.of("rows 2;column a 1 1 gain 1;column b 1 1 gain 1;need 2 2;").corners(), 2);
    }

    private static void draws() {
        RowWalks x = Told.of(LINE);
        promise = 37;
        // 0, 71, 9798, 1459: columns 1, 0, 1
        due("drawn(0, 3, 0)", x.drawn(0, 3, 0), 9);
        due("drawn(0, 3, 1)", x.drawn(0, 3, 1), 5);
        due("drawn(0, 3, 2)", x.drawn(0, 3, 2), 3);
        due("drawn(0, 0, 2)", x.drawn(0, 0, 2), 3);
        due("drawn(9999, 1, 1): 8982", x.drawn(9999, 1, 1), 3);
        due("drawn(9999, 12, 3)", x.drawn(9999, 12, 3), STRANGE);
        due("drawn(10000, 1, 0)", x.drawn(10000, 1, 0), STRANGE);
        due("drawn(-1, 1, 0)", x.drawn(-1, 1, 0), STRANGE);
        due("drawn(0, 13, 0)", x.drawn(0, 13, 0), STRANGE);
        due("drawn(0, -1, 0)", x.drawn(0, -1, 0), STRANGE);
        due("drawn(0, 0, 0) without columns", new RowWalks().drawn(0, 0, 0), STRANGE);
        promise = 38;
        due("chance(0, 0)", x.chance(0, 0), 100);
        due("chance(1, 1)", x.chance(1, 1), 49);
        due("chance(1, 0)", x.chance(1, 0), 0);
        due("chance(1, 4)", x.chance(1, 4), 100);
        due("chance(1, 13)", x.chance(1, 13), NONE);
        due("chance(13, 1)", x.chance(13, 1), NONE);
        due("chance(1, -1)", x.chance(1, -1), NONE);
        due("chance(0, 0) without columns", new RowWalks().chance(0, 0), NONE);
    }

    private static void knowledge() {
        promise = 39;
        RowWalks x = Told.of("rows 2;column a 1 2 gain 1;column b 0 0 gain 1;column c 3 -1 gain 1;");
        due("seen(9, ..)", x.seen(9, 0, 0, 0, true), NONE);
        due("seen(-1, ..)", x.seen(-1, 0, 0, 0, true), NONE);
        due("seen(.., 81, ..)", x.seen(1, 81, 0, 0, true), NONE);
        due("seen(.., -81, ..)", x.seen(1, 0, -81, 0, true), NONE);
        due("seen(.., .., 81)", x.seen(1, 0, 0, 81, true), NONE);
        due("seen(8, ..)", x.seen(8, 80, -80, 80, false), 0);
        promise = 42;
        due("fits(0): no column of 0 alone", x.fits(0), 3);
        due("fits(-1)", x.fits(-1), 3);
        promise = 39;
        x.later(10);
        due("seen", x.seen(1, -1, -2, 7, true), 1);
        promise = 42;
        due("fits(10)", x.fits(10), 1);
        due("fits(9)", x.fits(9), 3);
        promise = 43;
        due("fit(0, 10)", x.fit(0, 10), 0);
        due("fit(1, 10)", x.fit(1, 10), -2);
        due("fit(-1, 10)", x.fit(-1, 10), -2);
        due("fit(0, 9)", x.fit(0, 9), -1);
        due("fit(1, 9)", x.fit(1, 9), 0);
        due("fit(2, 9)", x.fit(2, 9), 2);
        due("fit(3, 9)", x.fit(3, 9), -2);
        promise = 42;
        x.change(0, 0, 5);
        due("fits(10): as told by the text", x.fits(10), 1);
        promise = 43;
        RowWalks eight = Told.of("column a 0 gain 1;column b 0 gain 1;column c 0 gain 1;column d 0 gain 1;"
            + "column e 0 gain 1;column f 0 gain 1;column g 0 gain 1;column h 1 gain 1;");
        due("fit(1, 0) of the last of eight", eight.fit(1, 0), 7);
        promise = 40;
        x.later(10);
        due("untell(1)", x.untell(1), true);
        due("untell(1)", x.untell(1), false);
        due("untell(2)", x.untell(2), false);
        due("untell(-1)", x.untell(-1), false);
        due("fits(20)", x.fits(20), 3);
        due("fits(19)", x.fits(19), 1);
        due("what is untold was seen", x.about(6), 2);
        due("seen(0, 1, ..) of none", x.seen(0, 1, 0, 0, true), 2);
        due("fits(20)", x.fits(20), 0);
        promise = 44;
        due("ask of none", x.ask(1, 0, 20), STRANGE);
        due("ask(1, 0, 9)", x.ask(1, 0, 9), -3);
        due("ask(1, 1, 9)", x.ask(1, 1, 9), 2);
        due("ask(0, 0, 9)", x.ask(0, 0, 9), -20);
        due("ask(0, 1, 9)", x.ask(0, 1, 9), 3);
        due("ask(9, 0, 9)", x.ask(9, 0, 9), STRANGE);
        due("ask(-1, 0, 9)", x.ask(-1, 0, 9), STRANGE);
        due("ask(1, 2, 9)", x.ask(1, 2, 9), STRANGE);
        promise = 39;
        for (int i = 3; i < 20; i++) {
            due("seen", x.seen(0, 0, 0, 0, true), i);
        }
        due("seen of 21", x.seen(0, 0, 0, 0, true), NONE);
        promise = 41;
        due("later(0)", x.later(0), 20);
        due("later(1001)", x.later(1001), NONE);
        due("later(-1)", x.later(-1), NONE);
        for (int i = 1; i <= 99; i++) {
            x.later(1000);
        }
        due("time", x.about(7), 99020);
        due("later(981)", x.later(981), NONE);
        due("later(980)", x.later(980), 100000);
        due("later(1)", x.later(1), NONE);
        due("later(0)", x.later(0), 100000);
    }

    private static void images() {
        RowWalks x = Told.of(SQUARE);
        promise = 45;
        due("image(0)", x.image(0), 3);
        due("image(1)", x.image(1), 3);
        due("image(2)", x.image(2), NONE);
        due("image(-1)", x.image(-1), NONE);
        promise = 46;
        x.change(0, 0, 5);
        x.worth(0, 50);
        x.want(0, 10);
        x.allow(9);
        x.hold(2, 9);
        x.undo();
        x.image(1);
        x.hold(2, 8);
        due("back(0)", x.back(0), 3);
        due("number(0, 0)", x.number(0, 0), 1);
        due("gain(0)", x.gain(0), 2);
        due("need(0)", x.need(0), 2);
        due("steps", x.about(2), 3);
        due("held(2)", x.held(2), 0);
        due("acts", x.about(4), 0);
        due("redo()", x.redo(), false);
        x.hold(0, 1);
        x.undo();
        due("back(1)", x.back(1), 3);
        due("to be redone", x.about(5), 0);
        due("number(0, 0)", x.number(0, 0), 5);
        due("held(2)", x.held(2), 0);
        due("steps", x.about(2), 9);
        due("back(2)", x.back(2), NONE);
        due("back(-1)", x.back(-1), NONE);
        x.seen(0, 0, 0, 0, true);
        x.back(0);
        due("seen stays", x.about(6), 1);
        due("back of nothing", new RowWalks().back(1), NONE);
    }

    private static void about() {
        promise = 47;
        RowWalks x = Told.of("rows 3;column a 1 -4 3 gain 99;steps 5;");
        x.hold(0, 1);
        x.hold(0, 2);
        x.hold(0, 3);
        x.undo();
        x.later(7);
        x.seen(0, 0, 0, 0, true);
        x.feed(0, 0, 0, 0, 0);
        int[] about = {3, 1, 5, 4, 2, 1, 1, 7, 20};
        for (int what = 0; what < about.length; what++) {
            due("about(" + what + ")", x.about(what), about[what]);
        }
        due("about(9)", x.about(9), NONE);
        due("about(-1)", x.about(-1), NONE);
        x.change(0, 1, 0);
        due("about(3)", x.about(3), 3);
    }

    public static void main(String[] args) {
        newObject();
        tape();
        program();
        faults();
        looks();
        turns();
        exchanges();
        takingBack();
        strips();
        bestPlan();
        doublings();
        fractions();
        draws();
        knowledge();
        images();
        about();
        System.out.println(wrong == 0 ? "all promises are kept" : wrong + " answers are not as due");
        if (wrong != 0) {
            System.exit(1);
        }
    }
}
