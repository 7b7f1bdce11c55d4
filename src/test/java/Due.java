import java.lang.reflect.InvocationTargetException;
import java.lang.reflect.Method;
import java.lang.reflect.Modifier;
import java.util.Arrays;
import java.util.Comparator;

/** Counts and prints the calls whose answer is not the one that is due. */
final class Due {
    static final int BAD_INDEX = -11;
    static final int BAD_VALUE = -12;
    static final int NOT_POSSIBLE = -13;
    static final int FULL = -14;
    static final int NONE = -15;
    static final int SWAP = -16;

    /** Numbers that are no players and no slots: just beside the range, and as far from it as can be. */
    static final int[] NOT_0_OR_1 = {-1, 2, Integer.MIN_VALUE, Integer.MAX_VALUE};

    private static final long LONGEST_RUN = 120_000;
    private static int wrong = 0;
    private static int checked = 0;
    private static String test = "";

    static {
        haltIfEndless();
    }

    private Due() {
    }

    static void is(String call, long got, long want) {
        checked++;
        if (got != want) {
            wrong++;
            System.out.println(test + call + " answered " + got + ", due is " + want);
        }
    }

    static void holds(String what, boolean so) {
        checked++;
        if (!so) {
            wrong++;
            System.out.println(test + "does not hold: " + what);
        }
    }

    static void same(String what, String got, String want) {
        checked++;
        if (!got.equals(want)) {
            wrong++;
            System.out.println(test + what + "\n  is  " + got + "\n  due " + want);
        }
    }

    static boolean anyWrong() {
        return wrong != 0;
    }

    static void end() {
        System.out.println(checked + " checked, " + wrong + " wrong");
        if (wrong != 0) {
            System.exit(1);
        }
    }

    /** Runs the tests of a class, which are its static methods without parameters, and ends. */
    static void runAll(Class<?> tests) throws IllegalAccessException {
        Method[] methods = tests.getDeclaredMethods();
        Arrays.sort(methods, Comparator.comparing(Method::getName));
        for (Method method : methods) {
            if (isTest(method)) {
                runOne(method);
            }
        }
        test = "";
        end();
    }

    static boolean isTest(Method method) {
        return Modifier.isStatic(method.getModifiers()) && method.getParameterCount() == 0
                && method.getReturnType() == void.class && !method.isSynthetic();
    }

    private static void runOne(Method method) throws IllegalAccessException {
        test = method.getName() + ": ";
        int before = checked;
        try {
            method.invoke(null);
        } catch (InvocationTargetException e) {
            holds("no exception, but there was " + e.getCause(), false);
        }
        holds("the test checks something", checked > before);
    }

    /** A call that does not end is a fault too, and must not keep .ci/run waiting. */
    private static void haltIfEndless() {
        Thread guard = new Thread(() -> {
            try {
                Thread.sleep(LONGEST_RUN);
            } catch (InterruptedException e) {
                return;
            }
            System.out.println(test + "does not end");
            System.out.flush();
            Runtime.getRuntime().halt(1);
        });
        guard.setDaemon(true);
        guard.start();
    }

    /** A workbench with a board of so many rows and these moves; -16 is a swap. */
    static HexWorkbench game(int rows, int... moves) {
        HexWorkbench x = new HexWorkbench();
        x.begin(rows);
        for (int i = 0; i < moves.length; i++) {
            if (moves[i] == HexWorkbench.SWAP) {
                holds("swap() is possible", x.swap() >= 0);
            } else {
                is("play(" + moves[i] + ")", x.play(moves[i]), i);
            }
        }
        return x;
    }

    /** The reference, with the same board and moves. */
    static Reference reference(int rows, int... moves) {
        Reference y = new Reference();
        y.begin(rows);
        for (int move : moves) {
            if (move == SWAP) {
                y.swap();
            } else {
                y.play(move);
            }
        }
        return y;
    }

    /** Appends all bytes of the text. */
    static void append(HexWorkbench x, String text) {
        for (int i = 0; i < text.length(); i++) {
            x.append(text.charAt(i));
        }
    }

    static long set(int... cells) {
        long set = 0;
        for (int cell : cells) {
            set |= 1L << cell;
        }
        return set;
    }

    /** The cells with the numbers from the first one to the last one. */
    static long range(int first, int last) {
        long set = 0;
        for (int cell = first; cell <= last; cell++) {
            set |= 1L << cell;
        }
        return set;
    }
}
