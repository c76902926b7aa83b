/** Rows of calls, drawn by a fixed rule, on the program and on PlainModel: each answer must be the same. */
public final class ModelTest {
    private static final String[] NAMES = {"plough", "back", "deer", "shut", "straw", "set", "told", "type", "furrow",
        "seen", "count", "walk", "at", "worst", "far", "roped", "two", "parts", "shutting", "days", "bell", "fit",
        "image", "restore", "go", "sheet", "drop", "item", "film", "typed furrow", "typed seen", "snake", "sheet way"};
    // How often a call is drawn, by its place in NAMES.
    private static final int[] WEIGHTS = {14, 3, 8, 6, 5, 6, 8, 1, 1, 1, 6, 8, 5, 4, 5, 5, 5, 3, 3, 1, 5, 3,
        1, 1, 2, 2, 1, 3, 2, 3, 3, 2, 2};
    private static final int[] WILD = {-1, -2, -3, 36, 37, 4, 10, 81, 1000, Integer.MAX_VALUE, Integer.MIN_VALUE,
        Integer.MAX_VALUE - 35, 1 << 16, 128, 40000};

    private static long seed;
    private static String said;
    private static int passed = 0;
    private static int failed = 0;

    private static int draw(int below) {
        seed = seed * 6364136223846793005L + 1442695040888963407L;
        return (int) ((seed >>> 33) % below);
    }

    /** Mostly a number from low to high, seldom a wild one. */
    private static int some(int low, int high) {
        return draw(60) == 0 ? WILD[draw(WILD.length)] : low + draw(high - low + 1);
    }

    private static int drawCall() {
        int all = 0;
        for (int w : WEIGHTS) {
            all += w;
        }
        int at = draw(all);
        int call = 0;
        while (at >= WEIGHTS[call]) {
            at -= WEIGHTS[call];
            call++;
        }
        return call;
    }

    private static String drawFurrow() {
        StringBuilder text = new StringBuilder();
        text.append(draw(6)).append(draw(6));
        int square = (text.charAt(0) - '0') * 6 + text.charAt(1) - '0';
        boolean[] been = new boolean[36];
        been[square] = true;
        for (int tries = draw(120); tries > 0; tries--) {
            int side = draw(4);
            int to = PlainModel.next(square, side);
            if (to >= 0 && !been[to]) {
                been[to] = true;
                square = to;
                text.append("ulrd".charAt(side));
            }
        }
        return spoil(text);
    }

    private static String drawSeen() {
        StringBuilder text = new StringBuilder();
        for (int parts = 1 + draw(draw(3) == 0 ? 13 : 3); parts > 0; parts--) {
            text.append(1 + draw(4)).append(1 + draw(4)).append("ulrd".charAt(draw(4)))
                .append(draw(3) == 0 ? '+' : '-').append(parts > 1 ? "," : "");
        }
        return spoil(text);
    }

    private static String spoil(StringBuilder text) {
        if (draw(4) == 0) {
            text.setCharAt(draw(text.length()), " 0567urld+-,*/".charAt(draw(14)));
        }
        while (draw(3) == 0) {
            text.insert(draw(text.length() + 1), ' ');
        }
        if (draw(8) == 0) {
            text.setLength(draw(text.length() + 1));
        }
        return text.toString();
    }

    private static boolean typeText(PloughMaze x, PlainModel m, String text) {
        boolean isSame = true;
        for (int i = 0; i < text.length(); i += 8) {
            int n = Math.min(8, text.length() - i);
            long w = draw(1000);
            for (int k = 0; k < n; k++) {
                w = w << 8 | text.charAt(i + k);
            }
            isSame &= same("type(" + w + ", " + n + ")", x.type(w, n), m.type(w, n));
        }
        return isSame;
    }

    private static boolean same(String call, int got, int want) {
        said = call;
        if (got == want) {
            passed++;
            return true;
        }
        failed++;
        System.out.println("FAILED " + call + " answered " + got + ", the plain model " + want);
        return false;
    }

    private static boolean call(String name, PloughMaze x, PlainModel m) {
        int a = some(0, 35);
        int b = some(0, 35);
        int side = some(0, 3);
        int kind = some(0, 3);
        int sheet = some(0, 3);
        int lane = some(0, 2);
        boolean is = draw(3) > 0;
        String args = name + " a=" + a + " b=" + b + " side=" + side + " kind=" + kind + " sheet=" + sheet + " lane=" + lane;
        switch (name) {
            case "plough": {
                for (int i = 0; i < 5; i++) {
                    a = some(0, 35);
                    if (!same(args + " i=" + i, x.plough(a), m.plough(a))) {
                        return false;
                    }
                }
                return true;
            }
            case "back": { int n = some(1, draw(4) == 0 ? 36 : 3); return same(args, x.back(n), m.back(n)); }
            case "deer": return same(args, x.deer(a, side), m.deer(a, side));
            case "shut": return same(args, x.shut(a, side, !is), m.shut(a, side, !is));
            case "straw": { is = draw(4) == 0; return same(args, x.straw(a, is), m.straw(a, is)); }
            case "set": { int w = some(0, 2); int v = w == 0 ? some(0, 9) : a; return same(args, x.set(w, v), m.set(w, v)); }
            case "told": { int w = some(0, 2); return same(args, x.told(a, w), m.told(a, w)); }
            case "type": {
                long w = (long) draw(1 << 30) << 32 | draw(1 << 30);
                int n = some(1, 8);
                return same(args, x.type(w, n), m.type(w, n));
            }
            case "furrow": return same(args, x.furrow(), m.furrow());
            case "seen": return same(args, x.seen(), m.seen());
            case "count": { int w = some(0, 6); return same(args, x.count(w), m.count(w)); }
            case "walk": return same(args, x.walk(kind, a, side), m.walk(kind, a, side));
            case "at": { int n = some(0, draw(2) == 0 ? 999 : 20); return same(args, x.at(kind, a, side, n), m.at(kind, a, side, n)); }
            case "worst": { int w = some(0, 2); return same(args, x.worst(kind, side, w), m.worst(kind, side, w)); }
            case "far": return same(args, x.far(a), m.far(a));
            case "roped": return same(args, x.roped(a), m.roped(a));
            case "two": { int k = some(0, 3); return same(args, x.two(kind, a, k, b, side), m.two(kind, a, k, b, side)); }
            case "parts": return same(args, x.parts(), m.parts());
            case "shutting": { int w = some(0, 2); return same(args, x.shutting(w), m.shutting(w)); }
            case "days": { int n = some(1, draw(3) == 0 ? 20 : 3); return same(args, x.days(n), m.days(n)); }
            case "bell": return same(args, x.bell(a), m.bell(a));
            case "fit": { int n = some(2, draw(8) == 0 ? 9 : 7); int k = some(-2, Math.max(0, Math.min(n, 9))); return same(args + " n=" + n + " k=" + k, x.fit(a, n, k), m.fit(a, n, k)); }
            case "image": return same(args, x.image(), m.image());
            case "restore": return same(args, x.restore(), m.restore());
            case "go": { int n = some(1, 4); int f = some(0, 6); return same(args, x.go(sheet, lane, f, n), m.go(sheet, lane, f, n)); }
            case "sheet": { int n = draw(2) == 0 ? 36 : some(0, 36); return same(args, x.sheet(sheet, lane, n), m.sheet(sheet, lane, n)); }
            case "drop": return same(args, x.drop(sheet), m.drop(sheet));
            case "item": { int i = some(0, 8); return same(args, x.item(sheet, lane, i, b), m.item(sheet, lane, i, b)); }
            case "film": { int f = some(0, 1); return same(args, x.film(sheet, lane, f), m.film(sheet, lane, f)); }
            case "typed furrow": { String t = drawFurrow(); return typeText(x, m, t) && same(args + t, x.furrow(), m.furrow()); }
            case "typed seen": { String t = drawSeen(); return typeText(x, m, t) && same(args + t, x.seen(), m.seen()); }
            case "snake": return snake(x, m);
            default: return sheetWay(x, m, sheet, lane);
        }
    }

    private static boolean snake(PloughMaze x, PlainModel m) {
        String text = new String[] {"00rrrrrdllllldrrrrrdllllldrrrrrdlllll", "00rrrrrdddddlllllurrrruluruuulldl",
            "00rrrrrdddddllllluuuu", "00rrdddllurdruul", "22rrddllurd"}[draw(4)];
        return typeText(x, m, text) && same("snake", x.furrow(), m.furrow());
    }

    private static boolean sheetWay(PloughMaze x, PlainModel m, int sheet, int lane) {
        boolean isSame = same("sheet", x.sheet(sheet, lane, 9), m.sheet(sheet, lane, 9));
        int square = draw(36);
        int n = 1 + draw(9);
        for (int i = 0; i < n && isSame; i++) {
            // Of other lanes more than the lowest bits would tell.
            int v = lane == 2 ? square : square + (draw(3) - 1) * (lane == 0 ? 256 : 65536);
            isSame = same("item", x.item(sheet, lane, i, v), m.item(sheet, lane, i, v));
            int to = PlainModel.next(square, draw(4));
            square = to < 0 ? square : to;
        }
        return isSame && same("go", x.go(sheet, lane, 0, n), m.go(sheet, lane, 0, n));
    }

    public static void main(String[] args) {
        int runs = args.length > 0 ? Integer.parseInt(args[0]) : 400;
        int[] drawn = new int[NAMES.length];
        for (int run = 0; run < runs; run++) {
            seed = 77L * run + 5;
            PloughMaze x = new PloughMaze();
            PlainModel m = new PlainModel();
            boolean isSame = true;
            for (int i = 0; i < 80 && isSame; i++) {
                int call = drawCall();
                drawn[call]++;
                isSame = call(NAMES[call], x, m);
            }
            if (!isSame) {
                System.out.println("   in run " + run + ", at " + said);
            }
        }
        for (int call = 0; call < NAMES.length; call++) {
            if (drawn[call] == 0) {
                failed++;
                System.out.println("FAILED: " + NAMES[call] + " was never drawn");
            }
        }
        System.out.println("ModelTest: " + passed + " passed, " + failed + " failed");
        if (failed > 0) {
            System.exit(1);
        }
    }
}
