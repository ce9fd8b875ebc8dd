/** All that the calls of an object show, as one text. */
final class Shown {
    /** By so many ways what an object holds is brought to light. */
    static final int WAYS = 6;

    private Shown() {
    }

    static String behind(RowWalks x, int way) {
        StringBuilder b = new StringBuilder();
        switch (way) {
            case 1:
                for (int i = 0; i < 21; i++) {
                    some(b.append(" undo ").append(x.undo()), x);
                }
                break;
            case 2:
                for (int i = 0; i < 21; i++) {
                    some(b.append(" redo ").append(x.redo()), x);
                }
                break;
            case 3:
                b.append(" back 0 ").append(x.back(0));
                break;
            case 4:
                b.append(" back 1 ").append(x.back(1));
                break;
            case 5:
                b.append(" program ").append(x.program());
                break;
            default:
                break;
        }
        return b.append(all(x)).toString();
    }

    private static void some(StringBuilder b, RowWalks x) {
        b.append(' ').append(x.holding(0)).append(' ').append(x.holding(3)).append(' ').append(x.holding(4));
        b.append(' ').append(x.holding(5)).append(' ').append(x.about(2)).append(' ').append(x.about(4));
    }

    /** Every call that only looks; less than 300 of them. */
    static String all(RowWalks x) {
        StringBuilder b = new StringBuilder();
        tape(b, x);
        columns(b, x);
        walks(b, x);
        plans(b, x);
        fractions(b, x);
        knowledge(b, x);
        return b.toString();
    }

    private static void tape(StringBuilder b, RowWalks x) {
        b.append(" fault ").append(x.fault(0)).append(' ').append(x.fault(1));
        for (int what = 0; what <= 8; what++) {
            b.append(" about ").append(x.about(what));
        }
    }

    private static void columns(StringBuilder b, RowWalks x) {
        for (int c = 0; c < x.about(1); c++) {
            b.append(" column ").append(x.gain(c)).append(' ').append(x.held(c));
            for (int r = 0; r < x.about(0); r++) {
                b.append(' ').append(x.number(c, r));
            }
        }
        for (int r = 0; r < 3; r++) {
            b.append(" need ").append(x.need(r));
        }
        for (int what = 0; what <= 5; what++) {
            b.append(" holding ").append(x.holding(what));
        }
        for (int r = 1; r <= 3; r += 2) {
            for (int what : new int[] {0, 1, 2, 10, 11, 12}) {
                b.append(" exchange ").append(x.exchange(r, what));
            }
        }
    }

    private static void walks(StringBuilder b, RowWalks x) {
        for (int t = 0; t <= 4; t += 2) {
            b.append(" strip ").append(x.strip(t, 2, 0)).append(' ').append(x.strip(t, 2, 1));
            b.append(" walks ").append(x.walks(t, 3)).append(" best ").append(x.best(t, 3));
            b.append(" step ").append(x.step(t, 3, 0)).append(' ').append(x.step(t, 3, 1));
            b.append(" narrow ").append(x.narrow(t)).append(" plans ").append(x.plans(t));
            b.append(" chance ").append(x.chance(t, 1)).append(" drawn ").append(x.drawn(7, t, 0));
        }
        b.append(" fewest ").append(x.fewest());
    }

    private static void plans(StringBuilder b, RowWalks x) {
        b.append(" optimum ").append(x.optimum(0)).append(' ').append(x.optimum(1));
        for (int c = 0; c < 3; c++) {
            b.append(" plan ").append(x.plan(c)).append(" order ").append(x.order(c));
        }
        b.append(" strays ").append(x.strays()).append(" sorted ").append(x.sorted());
    }

    private static void fractions(StringBuilder b, RowWalks x) {
        for (int what = 0; what <= 5; what++) {
            b.append(" doubled ").append(x.doubled(2, 1, what));
        }
        for (int what = 0; what <= 3; what++) {
            b.append(" relaxed ").append(x.relaxed(what));
        }
        b.append(" fraction ").append(x.fraction(2, 0)).append(' ').append(x.fraction(2, 1));
        b.append(" apart ").append(x.apart(0)).append(' ').append(x.apart(1)).append(" corners ").append(x.corners());
    }

    private static void knowledge(StringBuilder b, RowWalks x) {
        for (int k : new int[] {-1, 0, 4, 5, 6, 7, 100000}) {
            b.append(" fits ").append(x.fits(k)).append(" fit ").append(x.fit(0, k)).append(' ').append(x.fit(1, k));
            b.append(" ask ").append(x.ask(2, 0, k)).append(' ').append(x.ask(2, 1, k));
        }
        // what is told from here on is the last that is shown
        b.append(" later ").append(x.later(1));
        for (int i = 0; i < 4; i++) {
            b.append(" untell ").append(x.untell(i)).append(' ').append(x.fits(x.about(7)));
        }
        b.append(" seen ").append(x.seen(1, 1, 0, 0, true)).append(' ').append(x.fits(x.about(7)));
    }
}
