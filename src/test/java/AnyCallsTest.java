import java.lang.reflect.InvocationTargetException;
import java.lang.reflect.Method;
import java.lang.reflect.Modifier;
import java.util.ArrayList;
import java.util.Comparator;
import java.util.List;
import java.util.Random;

/** Any calls with any arguments in any state: none throws, and the same calls give the same answers. */
public final class AnyCallsTest {
    private static final String[] PIECES = {
        "rows 1;", "rows 2;", "rows 3;", "rows ", "column ", "a ", "b ", "gain ", "need ", "steps ", "-", ";", "1 ", "12 ",
        "column x 1 gain 5;", "column y -2 gain 7;", "column z 1 2 gain -3;", "column u 1 -1 3 gain 9;",
        "column v -3 0 2 gain 1;", "need 4;", "need 3 3;", "need 1 -2 5;", "steps 12;", "999 ", "abcdefghijk ", "?", "7up "
    };
    private static int wrong = 0;

    private static int number(Random random) {
        switch (random.nextInt(8)) {
            case 0:
                return random.nextInt();
            case 1:
                return random.nextBoolean() ? Integer.MAX_VALUE : Integer.MIN_VALUE;
            case 2:
                return random.nextInt(2001) - 1000;
            case 3:
                return random.nextInt(41) - 20;
            default:
                return random.nextInt(14) - 1;
        }
    }

    private static void someText(RowWalks x, Random random) {
        StringBuilder text = new StringBuilder();
        for (int i = random.nextInt(12); i >= 0; i--) {
            text.append(PIECES[random.nextInt(PIECES.length)]);
        }
        Told.tape(x, text.toString());
    }

    private static List<Method> face() {
        List<Method> face = new ArrayList<>();
        for (Method m : RowWalks.class.getDeclaredMethods()) {
            if (Modifier.isPublic(m.getModifiers())) {
                face.add(m);
            }
        }
        face.sort(Comparator.comparing(Method::getName));
        return face;
    }

    private static String run(long seed, List<Method> face) throws IllegalAccessException {
        Random random = new Random(seed);
        RowWalks x = new RowWalks();
        StringBuilder answers = new StringBuilder();
        for (int i = 0; i < 250; i++) {
            if (random.nextInt(20) == 0) {
                someText(x, random);
                answers.append(x.program()).append(' ');
            }
            Method m = face.get(random.nextInt(face.size()));
            Object[] with = new Object[m.getParameterCount()];
            for (int a = 0; a < with.length; a++) {
                with[a] = m.getParameterTypes()[a] == int.class ? (Object) number(random) : (Object) random.nextBoolean();
            }
            try {
                answers.append(m.invoke(x, with)).append(' ');
            } catch (InvocationTargetException e) {
                wrong++;
                System.out.println("seed " + seed + ": " + m.getName() + " threw " + e.getCause());
            }
        }
        return answers.toString();
    }

    public static void main(String[] args) throws IllegalAccessException {
        List<Method> face = face();
        int runs = args.length > 0 ? Integer.parseInt(args[0]) : 600;
        for (long seed = 0; seed < runs; seed++) {
            if (!run(seed, face).equals(run(seed, face))) {
                wrong++;
                System.out.println("seed " + seed + ": the same calls gave other answers");
            }
        }
        System.out.println(wrong == 0 ? "no call throws" : wrong + " wrong");
        if (wrong != 0) {
            System.exit(1);
        }
    }
}
