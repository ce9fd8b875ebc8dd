import java.util.Random;

/** Random runs of calls, each answer compared with that of the plain second form of the document (Naive). */
public final class AgainstNaiveTest {
    private static int wrong = 0;
    private static long calls = 0;
    private static final StringBuilder log = new StringBuilder();

    private final RowWalks x = new RowWalks();
    private final Naive y = new Naive();
    private final Random random;
    private final int longest;

    private AgainstNaiveTest(long seed, int longest) {
        random = new Random(seed);
        this.longest = longest;
    }

    private int in(int from, int to) {
        return from + random.nextInt(to - from + 1);
    }

    /** Mostly a number that can be, now and then one beside them, or far away. */
    private int about(int from, int to) {
        int kind = random.nextInt(40);
        if (kind == 0) {
            return to + 1;
        }
        if (kind == 1) {
            return from - 1;
        }
        if (kind == 2) {
            return random.nextBoolean() ? Integer.MAX_VALUE : Integer.MIN_VALUE;
        }
        return in(from, to);
    }

    private Naive.State someState(int columns, int size) {
        Naive.State s = new Naive.State();
        s.rows = in(1, 3);
        s.steps = in(1, longest);
        for (int c = 0; c < columns; c++) {
            int[] v = new int[s.rows];
            for (int r = 0; r < s.rows; r++) {
                v[r] = in(-size, size);
            }
            s.columns.add(v);
            s.gains.add(random.nextInt(3) == 0 ? in(-99, 99) : in(-4, 4));
            s.held.add(0);
        }
        s.need = new int[s.rows];
        int some = random.nextInt(3);
        for (int r = 0; r < s.rows; r++) {
            s.need[r] = some == 0 ? 0 : some == 1 ? in(-4, 4) : in(-20, 20);
        }
        // a need that some walk has, more often than by luck
        if (columns > 0 && random.nextBoolean()) {
            s.need = new int[s.rows];
            for (int k = in(0, longest); k > 0; k--) {
                int[] v = s.columns.get(random.nextInt(columns));
                for (int r = 0; r < s.rows; r++) {
                    s.need[r] = Math.max(-20, Math.min(20, s.need[r] + v[r]));
                }
            }
        }
        return s;
    }

    private void same(String call, long got, long due) {
        calls++;
        log.append(call).append(" = ").append(due).append('\n');
        if (got != due) {
            wrong++;
            if (wrong <= 5) {
                System.out.println(log);
                System.out.println(call + " answered " + got + ", due is " + due);
            }
        }
    }

    private static long bit(boolean b) {
        return b ? 1 : 0;
    }

    private void load(int columns, int size) {
        Naive.State s = someState(columns, size);
        String text = Naive.textOf(s);
        log.setLength(0);
        log.append(text).append('\n');
        y.load(s);
        same("program()", Told.program(x, text), columns);
    }

    private void act() {
        int c = about(0, y.n() - 1 < 0 ? 0 : y.n() - 1);
        int r = about(0, y.now.rows - 1);
        int v;
        switch (random.nextInt(12)) {
            case 0:
                v = about(-5, 5);
                same("change(" + c + "," + r + "," + v + ")", x.change(c, r, v), y.change(c, r, v));
                break;
            case 1:
                v = about(-99, 99);
                same("worth(" + c + "," + v + ")", x.worth(c, v), y.worth(c, v));
                break;
            case 2:
                v = about(-20, 20);
                same("want(" + r + "," + v + ")", x.want(r, v), y.want(r, v));
                break;
            case 3:
                v = random.nextInt(9) == 0 ? about(1, 12) : in(1, longest);
                if (v <= longest || v > 12) {
                    same("allow(" + v + ")", x.allow(v), y.allow(v));
                }
                break;
            case 4: case 5: case 6:
                v = random.nextBoolean() ? about(0, 3) : about(96, 99);
                same("hold(" + c + "," + v + ")", x.hold(c, v), y.hold(c, v));
                break;
            case 7:
                v = about(1, 3);
                same("better(" + v + ")", x.better(v), y.better(v));
                break;
            case 8:
                same("undo()", bit(x.undo()), bit(y.undo()));
                break;
            case 9:
                same("redo()", bit(x.redo()), bit(y.redo()));
                break;
            case 10:
                v = about(0, 1);
                same("image(" + v + ")", x.image(v), y.image(v));
                break;
            default:
                v = random.nextInt(4) == 0 ? about(0, 1) : -1;
                same("back(" + v + ")", x.back(v), y.back(v));
                break;
        }
    }

    private void look() {
        int c = about(0, 8);
        int r = about(0, 2);
        same("number(" + c + "," + r + ")", x.number(c, r), y.number(c, r));
        same("gain(" + c + ")", x.gain(c), y.gain(c));
        same("need(" + r + ")", x.need(r), y.need(r));
        same("held(" + c + ")", x.held(c), y.held(c));
        int what = about(0, 8);
        same("about(" + what + ")", x.about(what), y.about(what));
        what = about(0, 5);
        same("holding(" + what + ")", x.holding(what), y.holding(what));
        int size = about(1, 3);
        what = random.nextBoolean() ? about(0, 2) : about(10, 18);
        same("exchange(" + size + "," + what + ")", x.exchange(size, what), y.exchange(size, what));
    }

    private void walk() {
        int t = random.nextInt(9) == 0 ? about(0, longest) : in(0, longest);
        int w = random.nextBoolean() ? about(0, 12) : in(0, 3);
        int i = about(0, Math.max(0, Math.min(t, 12)));
        String tw = "(" + t + "," + w;
        if (t > longest && t <= 12) {
            return;
        }
        int what = about(0, 1);
        same("strip" + tw + "," + what + ")", x.strip(t, w, what), y.strip(t, w, what));
        same("walks" + tw + ")", x.walks(t, w), y.walks(t, w));
        same("best" + tw + ")", x.best(t, w), y.best(t, w));
        same("step" + tw + "," + i + ")", x.step(t, w, i), y.step(t, w, i));
        same("chance" + tw + ")", x.chance(t, w), y.chance(t, w));
        int seed = about(0, 9999);
        what = about(0, 2);
        same("drawn(" + seed + "," + t + "," + what + ")", x.drawn(seed, t, what), y.drawn(seed, t, what));
        if (random.nextInt(4) == 0) {
            same("narrow(" + t + ")", x.narrow(t), y.narrow(t));
        }
    }

    private void plan() {
        int i = about(0, 12);
        int what = about(0, 1);
        int c = about(0, 8);
        same("optimum(" + what + ")", x.optimum(what), y.optimum(what));
        same("plan(" + c + ")", x.plan(c), y.plan(c));
        same("order(" + i + ")", x.order(i), y.order(i));
        same("strays()", x.strays(), y.strays());
        same("sorted()", x.sorted(), y.sorted());
        same("plans(" + i + ")", x.plans(i), y.plans(i));
        same("apart(" + what + ")", x.apart(what), y.apart(what));
        if (random.nextInt(4) == 0) {
            same("fewest()", x.fewest(), y.fewest());
        }
    }

    private void fractions() {
        int what = about(0, 3);
        int part = about(0, 1);
        int c = about(0, 8);
        int l = about(0, 4);
        int w = about(0, 3);
        int level = about(0, 5);
        same("corners()", x.corners(), y.corners());
        same("relaxed(" + what + ")", x.relaxed(what), y.relaxed(what));
        same("fraction(" + c + "," + part + ")", x.fraction(c, part), y.fraction(c, part));
        same("doubled(" + l + "," + w + "," + level + ")", x.doubled(l, w, level), y.doubled(l, w, level));
    }

    private void know() {
        int t = about(0, Math.min(longest, 8));
        int k = random.nextInt(3) == 0 ? about(-1, y.time + 1) : y.time;
        if (t > longest && t <= 8) {
            return;
        }
        switch (random.nextInt(6)) {
            case 0: case 1:
                int[] sum = new int[3];
                for (int i = 0; i < t && t <= 8 && !y.text.columns.isEmpty(); i++) {
                    int[] v = y.text.columns.get(random.nextInt(y.text.columns.size()));
                    for (int r = 0; r < v.length; r++) {
                        sum[r] += v[r];
                    }
                }
                int any = random.nextInt(5);
                if (any < 3) {
                    sum[any] = about(-80, 80);
                }
                boolean is = random.nextInt(3) > 0;
                same("seen(" + t + "," + sum[0] + "," + sum[1] + "," + sum[2] + "," + is + ")",
                    x.seen(t, sum[0], sum[1], sum[2], is), y.seen(t, sum[0], sum[1], sum[2], is));
                break;
            case 2: case 3:
                int s = about(0, 20);
                same("untell(" + s + ")", bit(x.untell(s)), bit(y.untell(s)));
                break;
            case 4:
                int by = about(0, random.nextBoolean() ? 3 : 1000);
                same("later(" + by + ")", x.later(by), y.later(by));
                break;
            default:
                break;
        }
        same("fits(" + k + ")", x.fits(k), y.fits(k));
        int i = about(0, 8);
        same("fit(" + i + "," + k + ")", x.fit(i, k), y.fit(i, k));
        int what = about(0, 1);
        same("ask(" + t + "," + what + "," + k + ")", x.ask(t, what, k), y.ask(t, what, k));
    }

    private void some(int kind) {
        switch (kind) {
            case 0: case 1: case 2:
                act();
                break;
            case 3:
                look();
                break;
            case 4:
                walk();
                break;
            case 5:
                plan();
                break;
            case 6:
                fractions();
                break;
            default:
                know();
                break;
        }
    }

    private void run(int columns, int size, int turns) {
        load(columns, size);
        for (int i = 0; i < turns; i++) {
            some(random.nextInt(8));
            if (random.nextInt(60) == 0) {
                load(columns, size);
            }
        }
    }

    public static void main(String[] args) {
        int more = args.length > 0 ? Integer.parseInt(args[0]) : 1;
        for (int seed = 0; seed < 120 * more; seed++) {
            AgainstNaiveTest one = new AgainstNaiveTest(seed, 5);
            one.run(seed % 5, 1 + seed % 3 * 2, 60);
        }
        for (int seed = 0; seed < 40 * more; seed++) {
            AgainstNaiveTest one = new AgainstNaiveTest(1000000 + seed, 12);
            one.run(2 + seed % 2, 1 + seed % 3 * 2, 30);
        }
        for (int seed = 0; seed < 30 * more; seed++) {
            AgainstNaiveTest one = new AgainstNaiveTest(2000000 + seed, 4);
            one.run(6 + seed % 3, 1 + seed % 3 * 2, 20);
        }
        for (int seed = 0; seed < 4 * more; seed++) {
            AgainstNaiveTest one = new AgainstNaiveTest(3000000 + seed, 12);
            one.load(8, 2 + seed % 4);
            for (int i = 0; i < 2; i++) {
                one.walk();
                one.plan();
                one.fractions();
            }
        }
        System.out.println(calls + " calls, " + wrong + " wrong");
        if (wrong > 0) {
            System.exit(1);
        }
    }
}
