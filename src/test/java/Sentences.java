import java.util.function.Supplier;

/** What the tests of single sentences of the document share: each sentence has calls of its own that show it. */
abstract class Sentences {
    static final int BAD = -1, NOT = -2, FULL = -3, NONE = -4, NULL = -11, CAST = -12, INDEX = -13, SIZE = -14;
    static final int UP = 0, LEFT = 1, RIGHT = 2, DOWN = 3;
    static final int BLIND = 0, WALL = 1, CHALK = 2, CHILD = 3;
    static final int LEAST = Integer.MIN_VALUE, MOST = Integer.MAX_VALUE;
    /** The sides to the right, one behind the other: right of up is right, of right down, of down left, of left up. */
    static final int[] TO_THE_RIGHT = {UP, RIGHT, DOWN, LEFT};
    /** Through all squares, from 0 to 30, row by row. */
    static final String SNAKE = "00rrrrrdllllldrrrrrdllllldrrrrrdlllll";
    /** Through all squares, and its last one, 6, is next to its first one, 0. */
    static final String ROUND_SNAKE = "00rrrrrdddddluuuulddddluuuulddddluuuu";

    private static int held = 0;
    private static int broken = 0;
    private static int faults = 0;
    private static String now = "";

    /** A call with one of its numbers left open. */
    interface Asked {
        int of(PloughMaze x, int v);
    }

    static void sentence(String text, Runnable calls) {
        now = text;
        faults = 0;
        calls.run();
        if (faults == 0) {
            held++;
        } else {
            broken++;
        }
    }

    static void due(String call, int got, int want) {
        if (got != want) {
            fault(call + " answered " + got + ", due is " + want);
        }
    }

    static void due(String call, String got, String want) {
        if (!got.equals(want)) {
            fault(call + " told " + got + ", due is " + want);
        }
    }

    private static void fault(String text) {
        faults++;
        System.out.println("FAILED " + now + ": " + text);
    }

    /** All numbers from low to high are taken, and those on both sides of them, next or far off, are bad. */
    static void range(String number, int low, int high, Supplier<PloughMaze> maker, Asked call) {
        sentence(number + " is " + low + " .. " + high, () -> {
            for (int v = low; v <= high; v++) {
                int got = call.of(maker.get(), v);
                due(v + " is taken", got == BAD ? 0 : 1, 1);
            }
            due(low - 1 + "", call.of(maker.get(), low - 1), BAD);
            due(high + 1 + "", call.of(maker.get(), high + 1), BAD);
            due("the least", call.of(maker.get(), LEAST), BAD);
            due("the most", call.of(maker.get(), MOST), BAD);
            due("one whose lowest bits would do", call.of(maker.get(), 65536 + low), BAD);
        });
    }

    static void end(String name) {
        System.out.println(name + ": " + held + " sentences hold, " + broken + " are broken");
        if (broken > 0) {
            System.exit(1);
        }
    }

    /** Eight bytes a call: an object is not to be asked more than 512 times. */
    static void type(PloughMaze x, String text) {
        for (int i = 0; i < text.length(); i += 8) {
            int n = Math.min(8, text.length() - i);
            long w = 0;
            for (int k = 0; k < n; k++) {
                w = w << 8 | text.charAt(i + k);
            }
            if (x.type(w, n) < 0) {
                fault("type of " + text + " was refused");
            }
        }
    }

    static int furrow(PloughMaze x, String text) {
        type(x, text);
        return x.furrow();
    }

    static int seen(PloughMaze x, String text) {
        type(x, text);
        return x.seen();
    }

    /** A new object with a furrow. */
    static PloughMaze ploughed(String text) {
        PloughMaze x = new PloughMaze();
        furrow(x, text);
        return x;
    }

    /** A new object with gaps from a square on to some sides, a set, and the middle far from it. */
    static PloughMaze crossing(int square, int sides) {
        PloughMaze x = new PloughMaze();
        x.set(1, 35);
        for (int side = 0; side < 4; side++) {
            if ((sides >> side & 1) != 0) {
                x.deer(square, side);
            }
        }
        return x;
    }

    /** The square at a side, by rows and columns; -1 beyond the edge. */
    static int next(int square, int side) {
        int row = square / 6 + (side == UP ? -1 : side == DOWN ? 1 : 0);
        int column = square % 6 + (side == LEFT ? -1 : side == RIGHT ? 1 : 0);
        return row < 0 || row > 5 || column < 0 || column > 5 ? -1 : row * 6 + column;
    }

    /** The side that is so many quarters to the right of one. */
    static int turned(int side, int quarters) {
        int i = 0;
        while (TO_THE_RIGHT[i] != side) {
            i++;
        }
        return TO_THE_RIGHT[(i + quarters) % 4];
    }
}
