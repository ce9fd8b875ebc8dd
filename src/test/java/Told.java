/** Feeds a text to an object, twenty bytes at a time. */
final class Told {
    private Told() {
    }

    static void tape(RowWalks x, String text) {
        int before = x.about(8);
        for (int at = 0; at < text.length(); at += 20) {
            x.feed(four(text, at), four(text, at + 4), four(text, at + 8), four(text, at + 12), four(text, at + 16));
        }
        x.end(before + text.length());
    }

    static int program(RowWalks x, String text) {
        tape(x, text);
        return x.program();
    }

    static RowWalks of(String text) {
        RowWalks x = new RowWalks();
        if (program(x, text) < 0) {
            throw new IllegalArgumentException("a fault " + x.fault(0) + " at " + x.fault(1) + " in " + text);
        }
        return x;
    }

    private static int four(String text, int at) {
        int four = 0;
        for (int i = at; i < at + 4; i++) {
            four = four << 8 | (i < text.length() ? text.charAt(i) : 0);
        }
        return four;
    }
}
