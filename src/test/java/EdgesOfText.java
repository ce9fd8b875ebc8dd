/** The boundary cases of texts: what stands in "Terms" of a program, promises 1 to 5. */
final class EdgesOfText {
    private static final int NONE = Due.NONE;
    private static final int STRANGE = Due.STRANGE;
    private static final int BLANKS = 0x20202020;

    private EdgesOfText() {
    }

    private static String times(String text, int n) {
        return text.repeat(n);
    }

    /** Columns ca, cb and so on, 19 bytes each. */
    private static String columns(int n) {
        StringBuilder b = new StringBuilder();
        for (int i = 0; i < n; i++) {
            b.append("column c").append((char) ('a' + i)).append(" 1 gain 1;");
        }
        return b.toString();
    }

    /** A program of 700 bytes whose last line ends with the last of them. */
    private static String fullText() {
        String lines = columns(8) + "need -7;";
        return lines + times(" ", 700 - lines.length() - 9) + "steps 12;";
    }

    static void newObject() {
        Due.sentence(Due.TERMS, "The constants: `NONE = -1`: There is none. `STRANGE = -1000001`: A number that there is not.");
        Due.is("NONE", RowWalks.NONE, -1);
        Due.is("STRANGE", RowWalks.STRANGE, -1000001);

        Due.sentence(1, "An empty PROGRAM (one row, NEED 0, 8 steps).");
        RowWalks x = new RowWalks();
        Due.is("rows", x.about(0), 1);
        Due.is("columns", x.about(1), 0);
        Due.is("need(0)", x.need(0), 0);
        Due.is("need(1)", x.need(1), STRANGE);
        Due.is("steps", x.about(2), 8);
        Due.is("allow(8), as it is", x.allow(8), STRANGE);
        for (int what = 3; what <= 8; what++) {
            Due.is("about(" + what + ")", x.about(what), 0);
        }
        Due.is("number(0, 0)", x.number(0, 0), STRANGE);
        Due.is("gain(0)", x.gain(0), STRANGE);
        Due.is("held(0)", x.held(0), NONE);
        Due.is("holding(4)", x.holding(4), 0);
        Due.is("undo()", x.undo(), false);
        Due.is("redo()", x.redo(), false);
        Due.is("untell(0)", x.untell(0), false);
        Due.is("back(0)", x.back(0), NONE);
        Due.is("back(1)", x.back(1), NONE);
        // each as the first call of all
        Due.is("optimum(0)", new RowWalks().optimum(0), 0);
        Due.is("order(0)", new RowWalks().order(0), NONE);
        Due.is("strays()", new RowWalks().strays(), 0);
        Due.is("strip(0, 0, 0)", new RowWalks().strip(0, 0, 0), 1);
        Due.is("walks(0, 0)", new RowWalks().walks(0, 0), 1);
        Due.is("best(0, 0)", new RowWalks().best(0, 0), 0);
        Due.is("narrow(0)", new RowWalks().narrow(0), 0);
        Due.is("fewest()", new RowWalks().fewest(), 0);
        Due.is("doubled(0, 0, 0)", new RowWalks().doubled(0, 0, 0), 1);
        Due.is("relaxed(1)", new RowWalks().relaxed(1), 1);
        Due.is("corners()", new RowWalks().corners(), 1);
        Due.is("apart(1)", new RowWalks().apart(1), 1);
        Due.is("exchange(3, 0)", new RowWalks().exchange(3, 0), STRANGE);
        Due.is("fits(0)", new RowWalks().fits(0), 1);
        x.allow(3);
        Due.is("steps of another new object", new RowWalks().about(2), 8);
    }

    private static RowWalks taped(int n) {
        RowWalks x = Due.busy();
        x.end(0);
        Told.tape(x, fullText().substring(0, n));
        return x;
    }

    private static final Due.Maker FULL = () -> taped(700);
    private static final Due.Maker NEARLY_FULL = () -> taped(681);

    static void feed() {
        Due.sentence(2, "Twenty bytes come behind those on the TAPE, of each number the highest first: how many there are");
        RowWalks x = new RowWalks();
        Due.is("feed", x.feed(0x726F7773, 0x20323B6E, 0x65656420, 0x31202D32, 0x3B202020), 20);
        Due.is("program of 'rows 2;need 1 -2;'", x.program(), 0);
        Due.is("rows", x.about(0), 2);
        Due.is("need(0)", x.need(0), 1);
        Due.is("need(1)", x.need(1), -2);
        x.feed(0x6E656564, 0x20310000, 0, 0, 0);
        x.end(6);
        Due.is("feed behind 6", x.feed(0x31202D33, 0x3B202020, BLANKS, BLANKS, BLANKS), 26);
        Due.is("program of 'need 11 -3;', a number too many", x.program(), NONE);
        Due.is("its place", x.fault(1), 8);
        for (int at = 0; at < 20; at++) {
            int[] four = {BLANKS, BLANKS, BLANKS, BLANKS, BLANKS};
            four[at / 4] |= 0xFF000000 >>> at % 4 * 8;
            x.feed(four[0], four[1], four[2], four[3], four[4]);
            x.program();
            Due.is("fault of byte 255 at " + at, x.fault(0), 1);
            Due.is("place of byte 255 at " + at, x.fault(1), at);
        }
        for (int n = 20; n <= 700; n += 20) {
            Due.is("feed", x.feed(BLANKS, BLANKS, BLANKS, BLANKS, BLANKS), n);
        }

        Due.sentence(2, "NONE, and nothing comes, if there would be more than 700");
        x = taped(680);
        Due.is("feed of bytes 680 to 699", x.feed(BLANKS, BLANKS, BLANKS, BLANKS, BLANKS), 700);
        Due.refused(NEARLY_FULL, "feed at 681", NONE, y -> y.feed(0, 0, 0, 0, 0));
        Due.refused(FULL, "feed at 700", NONE, y -> y.feed(0, 0, 0, 0, 0));
        x = taped(700);
        x.feed(0, 0, 0, 0, 0);
        Due.is("program of 700 behind a feed that is refused", x.program(), 8);
    }

    static void end() {
        Due.sentence(3, "The TAPE has its first n bytes: n");
        RowWalks x = new RowWalks();
        Due.is("end(0) of an empty tape", x.end(0), 0);
        x.feed(0x726F7773, 0x20333B6E, 0x65656420, 0x31202D32, 0x3B202020);
        Due.is("end(20), all of them", x.end(20), 20);
        Due.is("end(7)", x.end(7), 7);
        Due.is("bytes", x.about(8), 7);
        Due.is("program of 'rows 3;'", x.program(), 0);
        Due.is("rows", x.about(0), 3);
        x.feed(0, 0, 0, 0, 0);
        Due.is("end(0)", x.end(0), 0);
        Due.is("bytes", x.about(8), 0);
        Due.is("program of nothing", x.program(), 0);
        x = taped(700);
        Due.is("end(700)", x.end(700), 700);
        Due.is("end(699)", x.end(699), 699);
        Due.is("program without the last byte", x.program(), NONE);
        Due.is("its place", x.fault(1), 699);
        cutBehind();

        Due.sentence(3, "NONE, doing nothing, if it has not so many, or n is below 0.");
        Due.refusedBeside(0, 15, "end of 15 bytes", NONE, RowWalks::end);
        Due.refused(FULL, "end(701) of 700", NONE, y -> y.end(701));
        Due.refused(FULL, "end(-1) of 700", NONE, y -> y.end(-1));
        Due.refused(RowWalks::new, "end(1) of nothing", NONE, y -> y.end(1));
        x = taped(40);
        x.end(20);
        Due.is("end(21) behind end(20): they are gone", x.end(21), NONE);
    }

    /** What was on the tape behind its first n bytes counts no more, directly behind them, too. */
    private static void cutBehind() {
        String[] texts = {"steps 1a", "steps 12", "stepss", "need ;", "need 1;"};
        for (String text : texts) {
            int n = text.length() - 1;
            RowWalks x = new RowWalks();
            Told.tape(x, text);
            Due.is("end(" + n + ")", x.end(n), n);
            Due.is("program of '" + text + "' without its last byte", x.program(), NONE);
            Due.is("its fault", x.fault(0), 2);
            Due.is("its place", x.fault(1), n);
        }
    }

    static void program() {
        Due.sentence(4, "The TAPE (empty then, also at a FAULT) is the PROGRAM");
        RowWalks x = new RowWalks();
        Told.program(x, "need 3;");
        Due.is("bytes", x.about(8), 0);
        Due.is("end(1)", x.end(1), NONE);
        Told.program(x, "need 3");
        Due.is("bytes behind a fault", x.about(8), 0);
        Due.is("end(1) behind a fault", x.end(1), NONE);
        Told.tape(x, "need 4;");
        Due.is("program", x.program(), 0);
        Due.is("need(0) of the text behind a fault", x.need(0), 4);
        Due.is("program of an empty tape", x.program(), 0);
        Due.is("need(0) is not told", x.need(0), 0);

        Due.sentence(4, "(nothing is HELD, no ACTS are kept, nothing is SEEN, BOXES are empty then; the TIME stays)");
        x = Due.busy();
        Due.is("kept and can be redone", x.about(4) * 10 + x.about(5), 61);
        Due.is("seen", x.about(6), 3);
        x.end(0);
        Due.is("program", Told.program(x, "rows 2;column a 1 2 gain 3;column b 3 2 gain 1;"), 2);
        Due.is("held(0)", x.held(0), 0);
        Due.is("held(1)", x.held(1), 0);
        Due.is("undo()", x.undo(), false);
        Due.is("redo()", x.redo(), false);
        Due.is("acts", x.about(4), 0);
        Due.is("acts that can be redone", x.about(5), 0);
        Due.is("seen", x.about(6), 0);
        Due.is("untell(1)", x.untell(1), false);
        Due.is("fits(7)", x.fits(7), 3);
        Due.is("untell(2), which was not untold", x.untell(2), false);
        Due.is("untell(0)", x.untell(0), false);
        Due.is("the number of the next seen", x.seen(0, 0, 0, 0, true), 0);
        Due.is("back(0)", x.back(0), NONE);
        Due.is("back(1)", x.back(1), NONE);
        Due.is("time", x.about(7), 7);

        x = Told.of("column a 1 gain 1;");
        x.seen(0, 0, 0, 0, true);
        x.program();
        Due.is("untell(0) of what another text saw", x.untell(0), false);

        Due.sentence(4, "how many COLUMNS");
        Due.is("program of no column", Told.program(x, "need 1;"), 0);
        Due.is("program of 8", Told.program(x, columns(8)), 8);
        Due.is("columns", x.about(1), 8);

        Due.sentence(4, "NONE: a FAULT (all else stays).");
        x = Due.busy();
        x.end(0);
        RowWalks y = Due.busy();
        y.end(0);
        // the fault is one of the same kind and place, so that all that is shown is the same
        Due.is("program", Told.program(x, "rows 9;column z 1 gain 1;need 1;steps 1;"), NONE);
        Due.same("what is shown behind a fault", Shown.behind(x, 0), Shown.behind(y, 0));
        for (int way = 1; way <= 4; way++) {
            x = Due.busy();
            x.end(0);
            Told.program(x, "rows 9;column z 1 gain 1;need 1;steps 1;");
            y = Due.busy();
            y.end(0);
            Due.same("what is shown behind a fault, way " + way, Shown.behind(x, way), Shown.behind(y, way));
        }
        x = Due.fine("rows 3;column a 1 2 3 gain 4;need 5 6 7;steps 9;", 1);
        Told.program(x, "rows 1;column b 5 gain 6;need 7;steps 8;?");
        Due.is("rows behind a fault at the end", x.about(0), 3);
        Due.is("number(0, 2)", x.number(0, 2), 3);
        Due.is("gain(0)", x.gain(0), 4);
        Due.is("need(2)", x.need(2), 7);
        Due.is("steps", x.about(2), 9);
        Due.is("fit(1, 0): the columns that the text told", x.fit(1, 0), 0);
        Due.is("seen", x.seen(1, 1, 2, 3, true), 0);
        Due.is("fits(0): their numbers", x.fits(0), 1);
    }

    static void fault() {
        Due.sentence(5, "Of the latest program() what 0: its FAULT (0), 1: its place (NONE).");
        RowWalks x = new RowWalks();
        Due.is("fault(0) of none", x.fault(0), 0);
        Due.is("fault(1) of none", x.fault(1), NONE);
        Told.program(x, "steps 13;");
        Due.is("fault(0)", x.fault(0), 4);
        Due.is("fault(1)", x.fault(1), 6);
        Told.program(x, "?");
        Due.is("fault(0) of the latest", x.fault(0), 1);
        Due.is("fault(1) of the latest", x.fault(1), 0);
        Told.tape(x, "need 1;");
        Due.is("fault(0): not of the tape", x.fault(0), 1);
        x.program();
        Due.is("fault(0) of one that is fine", x.fault(0), 0);
        Due.is("fault(1) of one that is fine", x.fault(1), NONE);

        Due.sentence(5, "NONE for another what.");
        Due.refusedBeside(0, 1, "fault", NONE, RowWalks::fault);
    }

    static void tokens() {
        Due.sentence(Due.TERMS, "A PROGRAM is a text of at most 700 bytes (empty at first): program = {line}.");
        RowWalks x = Due.fine(fullText(), 8);
        Due.is("steps, told by the last of 700 bytes", x.about(2), 12);
        Due.fault(fullText().substring(0, 699) + " ", 2, 700);
        Due.fault(times(" ", 699) + "?", 1, 699);
        Due.fine("", 0);
        Due.fine(times(" ", 700), 0);

        Due.sentence(Due.TERMS, "TOKENS: words (a .. z, 8 at most)");
        Due.fine("column a 1 gain 1;column z 1 gain 1;", 2);
        Due.fine("column abcdefgh 1 gain 1;column stuvwxyz 1 gain 1;", 2);
        Due.fault("column abcdefghi 1 gain 1;", 1, 7);
        Due.fault("abcdefghi", 1, 0);
        Due.fault("abcdefgh", 2, 0);
        Due.fine("column abcdefgh 1 gain 1;column abcdefgi 1 gain 1;column abcdefg 1 gain 1;", 3);

        Due.sentence(Due.TERMS, "N (1 to 3 digits)");
        Due.is("steps 7", Due.fine("steps 7;", 0).about(2), 7);
        Due.is("steps 07", Due.fine("steps 07;", 0).about(2), 7);
        Due.is("steps 007", Due.fine("steps 007;", 0).about(2), 7);
        Due.fault("steps 0007;", 1, 6);
        Due.fault("steps ;", 2, 6);
        Due.fault("column a 1 gain 999;", 4, 16);
        Due.fault("column a 1 gain 1000;", 1, 16);

        Due.sentence(Due.TERMS, "the signs - ;. Blanks (32, 10) part them or not");
        for (int sign = 0; sign < 256; sign++) {
            String text = String.valueOf((char) sign);
            boolean isLetter = sign >= 'a' && sign <= 'z';
            boolean isDigit = sign >= '0' && sign <= '9';
            if (sign == 32 || sign == 10) {
                Due.fine(text, 0);
                Due.is("a blank between", Due.fine("need" + text + "-" + text + "3" + text + ";" + text, 0).need(0), -3);
                Due.fault("need 1" + text + "1;", 2, 7);
            } else {
                Due.fault(text, isLetter || isDigit || sign == '-' || sign == ';' ? 2 : 1, 0);
            }
        }
        Due.is("no blanks", Due.fine("rows2;column a-1 3 gain-9;need 1-2;steps3;", 1).need(1), -2);
        Due.is("blanks", Due.fine("\n\n  rows \n 2 ; column\na\n - 1 3 gain - 9 ; ", 1).gain(0), -9);

        Due.sentence(Due.TERMS, "each is as long as can be");
        Due.fault("columna 1 gain 1;", 2, 0);
        Due.fault("rowsrows 1;", 2, 0);
        Due.fault("column a 1 gains 1;", 2, 11);
        for (String line : new String[] {"rows 2;", "column a 1 gain 1;", "need 1;", "steps 1;"}) {
            for (int at = 0; at < line.indexOf(' '); at++) {
                Due.fault(line.substring(0, at) + "z" + line.substring(at + 1), 2, 0);
            }
        }
        for (String word : new String[] {"zain", "gzin", "gazn", "gaiz", "gai"}) {
            Due.fault("column a 1 " + word + " 1;", 2, 11);
        }
        Due.is("11 is one number", Due.fine("need 11;", 0).need(0), 11);
        Due.fault("rows 2;need 11;", 2, 14);
        Due.is("a name behind which a number stands", Due.fine("column a5 gain7;", 1).number(0, 0), 5);

        Due.sentence(Due.TERMS, "no letter directly behind an N.");
        Due.fault("column a 1gain 1;", 1, 9);
        Due.fault("column a 1 gain 1a;", 1, 16);
        Due.fault("steps 1z;", 1, 6);
        Due.fault("rows 2;need 1 22a;", 1, 14);
        Due.fault("rows 2;need 1 222z;", 1, 14);
        Due.fault("steps 1 a;", 2, 8);
        Due.fault("steps 1\na;", 2, 8);
        Due.fine("column a 1 gain 1;need 1;", 1);
    }

    static void lines() {
        Due.sentence(Due.TERMS, "rows (1 .. 3; 1 if not told): the first line, if it is told.");
        Due.is("not told", Due.fine("need 1;", 0).about(0), 1);
        for (int rows = 1; rows <= 3; rows++) {
            Due.is("rows " + rows, Due.fine("rows " + rows + ";", 0).about(0), rows);
        }
        Due.fault("rows 0;", 4, 5);
        Due.fault("rows 4;", 4, 5);
        Due.fault("rows -1;", 2, 5);
        Due.is("rows behind blanks", Due.fine(" \nrows 2;", 0).about(0), 2);

        Due.sentence(Due.TERMS, "column, 8 at most, numbered as told");
        RowWalks x = Due.fine("column b 1 gain 11;column a 2 gain 22;", 2);
        Due.is("gain(0)", x.gain(0), 11);
        Due.is("gain(1)", x.gain(1), 22);
        Due.fine(columns(1), 1);
        Due.fine(columns(8), 8);
        Due.fine(columns(8) + "need 1;steps 2;", 8);
        Due.fault(columns(9), 2, 8 * 19);
        Due.fault(columns(8) + "column", 2, 8 * 19);

        Due.sentence(Due.TERMS, "a NAME (a word, none of rows, column, gain, need, steps)");
        for (String word : new String[] {"rows", "column", "gain", "need", "steps"}) {
            Due.fault("column " + word + " 1 gain 1;", 2, 7);
            Due.fine("column " + word + "x 1 gain 1;", 1);
            Due.fine("column " + word.substring(0, word.length() - 1) + " 1 gain 1;", 1);
        }
        Due.fault("column 1 gain 1;", 2, 7);
        Due.fault("column ; 1 gain 1;", 2, 7);

        Due.sentence(Due.TERMS, "of each row a number (-5 .. 5)");
        for (int rows = 1; rows <= 3; rows++) {
            numbersOfRows(rows);
        }

        Due.sentence(Due.TERMS, "what it gains (-99 .. 99)");
        Due.is("gain -99", Due.fine("column a 1 gain -99;", 1).gain(0), -99);
        Due.is("gain 99", Due.fine("column a 1 gain 99;", 1).gain(0), 99);
        Due.is("gain -0", Due.fine("column a 1 gain -0;", 1).gain(0), 0);
        Due.fault("column a 1 gain 100;", 4, 16);
        Due.fault("column a 1 gain -100;", 4, 17);

        Due.sentence(Due.TERMS, "need: of each row a number (-20 .. 20; 0 if not told).");
        x = Due.fine("rows 3;need -20 20 0;", 0);
        Due.is("need(0)", x.need(0), -20);
        Due.is("need(1)", x.need(1), 20);
        Due.is("need(2)", x.need(2), 0);
        Due.fault("rows 3;need 21 0 0;", 4, 12);
        Due.fault("rows 3;need 0 -21 0;", 4, 15);
        Due.fault("rows 3;need 0 0 21;", 4, 16);
        Told.program(x, "rows 3;");
        for (int row = 0; row < 3; row++) {
            Due.is("need that is not told", x.need(row), 0);
        }

        Due.sentence(Due.TERMS, "steps (1 .. 12; 8 if not told).");
        Due.is("steps 1", Due.fine("steps 1;", 0).about(2), 1);
        x = Due.fine("steps 12;", 0);
        Due.is("steps 12", x.about(2), 12);
        Due.fault("steps 0;", 4, 6);
        Due.fault("steps 13;", 4, 6);
        Due.fault("steps -1;", 2, 6);
        Told.program(x, "need 1;");
        Due.is("steps that are not told", x.about(2), 8);

        Due.sentence(Due.TERMS, "need, steps once each.");
        Due.fine("need 1;steps 1;", 0);
        Due.fault("need 1;steps 1;need 1;", 3, 15);
        Due.fault("steps 1;need 1;steps 1;", 3, 15);
        Due.fault("need 0;need 0;", 3, 7);
        x = Due.fine("need 1;steps 1;", 0);
        Due.is("once in each text", Told.program(x, "need 2;steps 2;"), 0);
    }

    private static void numbersOfRows(int rows) {
        for (int row = 0; row < rows; row++) {
            String before = "rows " + rows + ";column a" + times(" 0", row);
            String behind = times(" 0", rows - row - 1) + " gain 0;";
            Due.is("number -5", Due.fine(before + " -5" + behind, 1).number(0, row), -5);
            Due.is("number 5", Due.fine(before + " 5" + behind, 1).number(0, row), 5);
            Due.fault(before + " -6" + behind, 4, before.length() + 2);
            Due.fault(before + " 6" + behind, 4, before.length() + 1);
        }
        String full = "rows " + rows + ";column a" + times(" 0", rows);
        Due.fault(full.substring(0, full.length() - 1) + "gain 0;", 2, full.length() - 1);
        Due.fault(full + " 0 gain 0;", 2, full.length() + 1);
    }

    static void faults() {
        Due.sentence(Due.TERMS, "FAULTS, the first by its place (bytes from 0; the end: the text's length)");
        Due.fault("steps 13;need 21;", 4, 6);
        Due.fault("steps 13;?", 4, 6);
        Due.fault("steps 1 1;?", 2, 8);
        Due.fault("need 1;need 1;?", 3, 7);
        Due.fault("?steps 13;", 1, 0);
        Due.fault("steps 1?3;", 1, 7);
        Due.fault("rows", 2, 4);
        Due.fault("rows 1", 2, 6);
        Due.fault("rows 1 \n", 2, 8);
        Due.fault("need 1 ;steps", 2, 13);
        Due.fault("column", 2, 6);
        Due.fault("column a", 2, 8);
        Due.fault("column a -", 2, 10);
        Due.fault("column a 1", 2, 10);
        Due.fault("column a 1 gain", 2, 15);
        Due.fault("column a 1 gain -", 2, 17);
        Due.fault("column a 1 gain 1", 2, 17);

        Due.sentence(Due.TERMS, "at one place the least");
        Due.fault("steps 1300;", 1, 6);
        Due.fault("steps 99a;", 1, 6);
        Due.fault("need 1 99;", 2, 7);
        Due.fault("rows 1;rows 9;", 2, 7);
        Due.fault("column a 1 gain 1;column abcdefghi", 1, 25);
        Due.fault(columns(8) + "column ca", 2, 8 * 19);

        Due.sentence(Due.TERMS, "1 no TOKEN");
        Due.fault("rows 1,", 1, 6);
        Due.fault("need +1;", 1, 5);
        Due.fault("Need 1;", 1, 0);
        Due.fault("nEed 1;", 2, 0);
        Due.fault("need\t1;", 1, 4);
        Due.fault("need 1;\r", 1, 7);

        Due.sentence(Due.TERMS,
            "2 one that can't stand there (rows behind another line, at that word; a column too many, at that word; "
            + "a number too few, too many)");
        Due.fault("rows 1; rows 1;", 2, 8);
        Due.fault("need 1; rows 1;", 2, 8);
        Due.fault("steps 1; rows 1;", 2, 9);
        Due.fault("column a 1 gain 1; rows 1;", 2, 19);
        Due.fault(columns(8) + " column z 1 gain 1;", 2, 8 * 19 + 1);
        Due.fault("need ;", 2, 5);
        Due.fault("rows 2;need 1 ;", 2, 14);
        Due.fault("need 1 1;", 2, 7);
        Due.fault("need 1 -1;", 2, 7);
        Due.fault("rows 3;need 1 1 1 1;", 2, 18);
        Due.fault("rows 1 1;", 2, 7);
        Due.fault("steps 1 1;", 2, 8);
        Due.fault("column a gain 1;", 2, 9);
        Due.fault("column a 1 gain ;", 2, 16);
        Due.fault("column a 1 gain 1 1;", 2, 18);
        Due.fault("need --1;", 2, 6);
        Due.fault("need 1-;", 2, 6);
        Due.fault(";", 2, 0);
        Due.fault("need 1;;", 2, 7);
        Due.fault("gain 1;", 2, 0);

        Due.sentence(Due.TERMS, "3 a NAME told already (at it), need, steps told already (at the word)");
        Due.fault("column a 1 gain 1;column  a 1 gain 1;", 3, 26);
        Due.fault("column a 1 gain 1;column a\n1 gain 1;", 3, 25);
        Due.fault("column a-1 gain 1;column a 1 gain 1;", 3, 25);
        Due.fault("column abcdefgh1 gain 1;column abcdefgh 1 gain 1;", 3, 31);
        Due.fine("column abcdefgh 1 gain 1;column zbcdefgh 1 gain 1;", 2);
        Due.fault(columns(7) + "column ca 1 gain 1;", 3, 7 * 19 + 7);
        Due.fault(columns(7) + "column cg 1 gain 1;", 3, 7 * 19 + 7);
        Due.fine("column a 1 gain 1;column aa 1 gain 1;column b 1 gain 1;column ab 1 gain 1;", 4);
        Due.fault("need 1; need 1;", 3, 8);
        Due.fault("steps 1; steps 1;", 3, 9);
        RowWalks x = Due.fine("column a 1 gain 1;", 1);
        Due.is("a name that another text told", Told.program(x, "column a 1 gain 1;"), 1);

        Due.sentence(Due.TERMS, "4 a number that can't be (at its N).");
        Due.fault("need - 21;", 4, 7);
        Due.fault("need -\n21;", 4, 7);
        Due.fault("rows 999;", 4, 5);
        Due.fault("column a 5 gain - 100;", 4, 18);
    }

    static void all() {
        newObject();
        feed();
        end();
        program();
        fault();
        tokens();
        lines();
        faults();
    }
}
