import java.util.ArrayList;
import java.util.HashSet;
import java.util.List;
import java.util.Random;
import java.util.Set;
import java.util.regex.Matcher;
import java.util.regex.Pattern;

/**
 * Random texts, most of them nearly programs: what program() and fault() answer against a second reading of
 * the grammar, by patterns. Each token becomes a letter, and the longest beginning that a program can go on
 * from tells the first token that can't stand there.
 */
public final class TextsTest {
    private static final Pattern TOKEN = Pattern.compile("[a-z]+|[0-9]+|[-;]");
    private static final String WORDS = "rows column gain need steps";
    private static final String[] PIECES = {
        "rows ", "column ", "gain ", "need ", "steps ", "a", "b ", "c ", "abcdefgh ", "abcdefghi ", "1 ", "2 ", "3 ", "5", "6 ",
        "-", " -", ";", ";", "; ", "0 ", "12 ", "13 ", "20 ", "21 ", "99 ", "100 ", "007 ", "1000 ", "\n", " ", "?", "A", "\t",
        "rows 2;", "rows 3;", "column d 1 gain 2;", "column e 1 -5 gain 7;", "column f 1 2 3 gain -99;", "need 20;", "need 1 2;",
        "steps 12;"
    };

    private final String text;
    private final List<Integer> places = new ArrayList<>();
    private final StringBuilder letters = new StringBuilder();
    private int fault = 0;
    private int place = -1;

    private TextsTest(String text) {
        this.text = text;
        cut();
        judge();
    }

    /** The first by its place, at one place the least. */
    private void say(int kind, int at) {
        if (fault == 0 || at < place || at == place && kind < fault) {
            fault = kind;
            place = at;
        }
    }

    private String token(int i) {
        Matcher m = TOKEN.matcher(text);
        m.find(places.get(i));
        return m.group();
    }

    private void cut() {
        int at = 0;
        while (at < text.length()) {
            char c = text.charAt(at);
            if (c == 32 || c == 10) {
                at++;
                continue;
            }
            Matcher m = TOKEN.matcher(text).region(at, text.length());
            if (!m.lookingAt()) {
                say(1, at);
                return;
            }
            String token = m.group();
            boolean isLetter = Character.isLetter(token.charAt(0));
            boolean isDigit = Character.isDigit(token.charAt(0));
            boolean goesOn = m.end() < text.length() && text.charAt(m.end()) >= 'a' && text.charAt(m.end()) <= 'z';
            if (isLetter && token.length() > 8 || isDigit && (token.length() > 3 || goesOn)) {
                say(1, at);
                return;
            }
            places.add(at);
            letters.append(isDigit ? 'N' : !isLetter ? token.charAt(0) : letterOf(token));
            at = m.end();
        }
    }

    /** r, c, g, n, s for the words that mean something, w for another. */
    private static char letterOf(String word) {
        for (String one : WORDS.split(" ")) {
            if (one.equals(word)) {
                return word.charAt(0);
            }
        }
        return 'w';
    }

    private int rows() {
        boolean isTold = letters.toString().startsWith("rN");
        int rows = isTold ? Integer.parseInt(token(1)) : 1;
        return rows >= 1 && rows <= 3 ? rows : 1;
    }

    private static boolean canGoOn(Pattern program, CharSequence tokens) {
        Matcher m = program.matcher(tokens);
        return m.matches() || m.hitEnd();
    }

    private void judge() {
        String numbers = "(-?N){" + rows() + "}";
        Pattern program = Pattern.compile("(rN;)?(cw" + numbers + "g-?N;|n" + numbers + ";|sN;)*");
        int stands = 0;
        while (stands < letters.length() && canGoOn(program, letters.substring(0, stands + 1))) {
            stands++;
        }
        if (stands < letters.length()) {
            say(2, places.get(stands));
        } else if (!program.matcher(letters).matches()) {
            say(2, text.length());
        }
        lookAtMeaning(stands);
    }

    private void lookAtMeaning(int upTo) {
        Set<String> names = new HashSet<>();
        Set<Character> once = new HashSet<>();
        char line = ' ';
        int columns = 0;
        for (int i = 0; i < upTo; i++) {
            char c = letters.charAt(i);
            int at = places.get(i);
            if (c == 'c' && ++columns > 8) {
                say(2, at);
            }
            if ((c == 'n' || c == 's') && !once.add(c) || c == 'w' && !names.add(token(i))) {
                say(3, at);
            }
            if (c == 'N') {
                lookAtNumber(line, Integer.parseInt(token(i)), at);
            } else if (c != '-' && c != 'w') {
                line = c;
            }
        }
    }

    private void lookAtNumber(char line, int v, int at) {
        String kinds = "rcgns";
        int[] least = {1, 0, 0, 0, 1};
        int[] most = {3, 5, 99, 20, 12};
        int kind = kinds.indexOf(line);
        if (kind >= 0 && (v < least[kind] || v > most[kind])) {
            say(4, at);
        }
    }

    private int columns() {
        return (int) letters.chars().filter(c -> c == 'c').count();
    }

    private static String some(Random random) {
        StringBuilder b = new StringBuilder();
        if (random.nextInt(3) == 0) {
            b.append("rows ").append(1 + random.nextInt(3)).append(';');
        }
        for (int i = random.nextInt(9); i > 0; i--) {
            b.append(PIECES[random.nextInt(PIECES.length)]);
        }
        return b.toString();
    }

    private static String line(Random random, int rows) {
        StringBuilder b = new StringBuilder();
        int kind = random.nextInt(6);
        if (kind == 5) {
            return "steps " + random.nextInt(15) + ";";
        }
        b.append(kind < 4 ? "column " + (char) ('a' + random.nextInt(9)) : "need");
        int off = random.nextInt(25) == 0 ? random.nextInt(3) - 1 : 0;
        for (int i = 0; i < rows + off; i++) {
            b.append(random.nextBoolean() ? " " : " -").append(random.nextInt(kind < 4 ? 6 : 21));
        }
        if (random.nextInt(40) == 0) {
            b.append(PIECES[random.nextInt(PIECES.length)]);
        }
        if (kind < 4) {
            b.append(" gain ").append(random.nextInt(25) == 0 ? random.nextInt(300) - 150 : random.nextInt(199) - 99);
        }
        return b.append(random.nextInt(60) == 0 ? " " : ";").toString();
    }

    /** Nearly a program: lines that are mostly fine, then a byte or two turned. */
    private static String nearly(Random random) {
        int rows = 1 + random.nextInt(3);
        StringBuilder b = new StringBuilder("rows " + rows + ";");
        for (int i = random.nextInt(12); i > 0; i--) {
            b.append(line(random, rows));
        }
        for (int i = random.nextInt(3); i > 0 && b.length() > 0; i--) {
            int at = random.nextInt(b.length());
            String turned = " \n-;0159azgn?";
            switch (random.nextInt(3)) {
                case 0:
                    b.setCharAt(at, turned.charAt(random.nextInt(turned.length())));
                    break;
                case 1:
                    b.deleteCharAt(at);
                    break;
                default:
                    b.insert(at, turned.charAt(random.nextInt(turned.length())));
                    break;
            }
        }
        return b.length() > 700 ? b.substring(0, 700) : b.toString();
    }

    public static void main(String[] args) {
        int texts = args.length > 0 ? Integer.parseInt(args[0]) : 20000;
        Random random = new Random(7);
        int wrong = 0;
        int[] kinds = new int[5];
        for (int i = 0; i < texts; i++) {
            TextsTest due = new TextsTest(i % 2 == 0 ? some(random) : nearly(random));
            RowWalks x = new RowWalks();
            int got = Told.program(x, due.text);
            int want = due.fault == 0 ? due.columns() : -1;
            kinds[due.fault]++;
            if (got != want || x.fault(0) != due.fault || x.fault(1) != due.place) {
                wrong++;
                System.out.println("'" + due.text + "': program() " + got + ", fault " + x.fault(0) + " at " + x.fault(1)
                    + ", due is " + want + ", " + due.fault + " at " + due.place);
            }
        }
        System.out.println(texts + " texts, " + kinds[0] + " programs, faults 1 to 4: " + kinds[1] + " " + kinds[2] + " " + kinds[3]
            + " " + kinds[4] + ", " + wrong + " wrong");
        if (wrong > 0) {
            System.exit(1);
        }
    }
}
