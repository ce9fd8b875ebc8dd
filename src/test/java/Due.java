import java.io.IOException;
import java.nio.charset.StandardCharsets;
import java.nio.file.Files;
import java.nio.file.Path;
import java.util.HashMap;
import java.util.Map;
import java.util.TreeSet;

/**
 * The checks of a test, each under the words of the document that it is of. The words
 * are looked up in the document, so that none is tested that does not stand there.
 */
final class Due {
    static final int NONE = -1;
    static final int STRANGE = -1000001;
    static final int LEAST = Integer.MIN_VALUE;
    static final int MOST = Integer.MAX_VALUE;
    /** In the place of a promise: the words stand in "Terms". */
    static final int TERMS = 0;
    private static final int PROMISES = 47;

    private static final Map<Integer, String> SECTIONS = new HashMap<>();
    private static final Map<Maker, String[]> UNTOUCHED = new HashMap<>();
    private static final TreeSet<Integer> TESTED = new TreeSet<>();
    private static String words = "";
    private static int sentences = 0;
    private static int checks = 0;
    private static int checksBefore = 0;
    private static int wrong = 0;

    private Due() {
    }

    /** A call on an object; true counts 1, false 0. */
    interface Call {
        long on(RowWalks x);
    }

    /** A call on an object with a number. */
    interface With {
        long on(RowWalks x, int v);
    }

    /** Makes an object, always the same one. */
    interface Maker {
        RowWalks made();
    }

    static long bit(boolean is) {
        return is ? 1 : 0;
    }

    private static void say(String what) {
        wrong++;
        System.out.println(what);
    }

    static void readDocument() throws IOException {
        Path path = Path.of("../shared/DOC.md");
        if (!Files.exists(path)) {
            System.out.println("there is no " + path + ": the words of the sentences are not looked up");
            return;
        }
        String document = Files.readString(path, StandardCharsets.UTF_8);
        for (String section : document.split("\n## ")) {
            String plain = section.replaceAll("\\s+", " ");
            if (plain.startsWith("Terms")) {
                SECTIONS.put(TERMS, plain);
            } else if (plain.startsWith("Promise ")) {
                SECTIONS.put(Integer.parseInt(plain.substring(8, plain.indexOf(':'))), plain);
            }
        }
    }

    /** All checks up to the next sentence are of these words. */
    static void sentence(int promise, String of) {
        endSentence();
        words = (promise == TERMS ? "Terms" : "promise " + promise) + " '" + of + "'";
        sentences++;
        TESTED.add(promise);
        if (!SECTIONS.isEmpty() && !SECTIONS.getOrDefault(promise, "").contains(of)) {
            say(words + ": this does not stand there");
        }
    }

    private static void endSentence() {
        if (sentences > 0 && checks == checksBefore) {
            say(words + ": nothing is looked at");
        }
        checksBefore = checks;
    }

    static void end() {
        endSentence();
        for (int promise = TERMS; promise <= PROMISES; promise++) {
            if (!TESTED.contains(promise)) {
                say("promise " + promise + ": no sentence of it is tested");
            }
        }
        System.out.println(sentences + " sentences, " + checks + " checks, " + wrong + " wrong");
        if (wrong != 0) {
            System.exit(1);
        }
    }

    static void is(String call, long got, long want) {
        checks++;
        if (got != want) {
            say(words + ": " + call + " answered " + got + ", due is " + want);
        }
    }

    static void is(String call, boolean got, boolean want) {
        is(call, bit(got), bit(want));
    }

    static void same(String what, String got, String want) {
        checks++;
        if (!got.equals(want)) {
            say(words + ": " + what + " is\n  " + got + "\nand not\n  " + want);
        }
    }

    /** The text is a program of so many columns. */
    static RowWalks fine(String text, int columns) {
        RowWalks x = new RowWalks();
        is("program of '" + text + "'", Told.program(x, text), columns);
        is("fault(0) of '" + text + "'", x.fault(0), 0);
        is("fault(1) of '" + text + "'", x.fault(1), NONE);
        return x;
    }

    static void fault(String text, int kind, int place) {
        RowWalks x = new RowWalks();
        is("program of '" + text + "'", Told.program(x, text), NONE);
        is("fault(0) of '" + text + "'", x.fault(0), kind);
        is("fault(1) of '" + text + "'", x.fault(1), place);
    }

    /** The call answers so, and nothing that other calls show is another than without it. */
    static void refused(Maker maker, String call, long want, Call made) {
        String[] untouched = UNTOUCHED.computeIfAbsent(maker, Due::shownBehindAllWays);
        for (int way = 0; way < Shown.WAYS; way++) {
            RowWalks x = maker.made();
            is(call, made.on(x), want);
            same("what is shown behind " + call + ", way " + way, Shown.behind(x, way), untouched[way]);
        }
    }

    static void refused(String call, long want, Call made) {
        refused(BUSY, call, want, made);
    }

    /** What is beside a range, and what is as far from it as can be, is refused. */
    static void refusedBeside(int least, int most, String call, long want, With made) {
        for (int v : new int[] {least - 1, most + 1, LEAST, MOST}) {
            refused(call + " with " + v, want, x -> made.on(x, v));
        }
    }

    private static String[] shownBehindAllWays(Maker maker) {
        String[] shown = new String[Shown.WAYS];
        for (int way = 0; way < Shown.WAYS; way++) {
            shown[way] = Shown.behind(maker.made(), way);
        }
        return shown;
    }

    static final Maker BUSY = Due::busy;

    /** An object in which all that a call could change holds something. */
    static RowWalks busy() {
        RowWalks x = Told.of(
            "rows 2;column a 1 0 gain 2;column b 0 1 gain 1;column c 1 1 gain 4;need 2 1;steps 3;");
        x.later(5);
        x.seen(1, 1, 0, 0, true);
        x.seen(2, -1, 0, 0, false);
        x.later(2);
        x.untell(0);
        x.seen(1, 0, 1, 0, true);
        x.change(1, 0, 1);
        x.hold(0, 2);
        x.image(0);
        x.worth(1, 3);
        x.hold(1, 2);
        x.want(1, 2);
        x.image(1);
        x.allow(4);
        x.hold(2, 3);
        x.undo();
        Told.program(x, "rows 9;");
        Told.tape(x, "rows 3;need 1 2");
        return x;
    }
}
