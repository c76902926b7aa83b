import java.util.ArrayList;
import java.util.Arrays;
import java.util.List;

/**
 * The document once more, by other means than the program's: lists and tables of pairs in place of bits, all ways
 * of all pairs at once in place of a queue, every furrow written out in place of a search. It may be slow.
 */
final class PlainModel {
    private static final int[] CLOCKWISE = {0, 2, 3, 1};
    private static final int FAR_OFF = 1_000_000;

    private static final class State {
        List<Integer> furrow = new ArrayList<>();
        boolean[][] eaten = new boolean[36][36];
        boolean[][] shut = new boolean[36][36];
        boolean[] straw = new boolean[36];
        int[] set = {9, 14, 0};
        List<int[]> seen = new ArrayList<>();

        State twin() {
            State t = new State();
            t.furrow = new ArrayList<>(furrow);
            for (int i = 0; i < 36; i++) {
                t.eaten[i] = eaten[i].clone();
                t.shut[i] = shut[i].clone();
            }
            t.straw = straw.clone();
            t.set = set.clone();
            t.seen = new ArrayList<>(seen);
            return t;
        }
    }

    private State s = new State();
    private State image = null;
    private String tape = "";
    private final int[][] sheets = new int[4][];
    private final int[] lanes = new int[4];

    private static boolean in(int v, int low, int high) {
        return v >= low && v <= high;
    }

    private static boolean sq(int v) {
        return in(v, 0, 35);
    }

    static int next(int square, int side) {
        int row = square / 6 + (side == 0 ? -1 : side == 3 ? 1 : 0);
        int column = square % 6 + (side == 1 ? -1 : side == 2 ? 1 : 0);
        return in(row, 0, 5) && in(column, 0, 5) ? row * 6 + column : -1;
    }

    private static boolean isNext(int a, int b) {
        return Math.abs(a / 6 - b / 6) + Math.abs(a % 6 - b % 6) == 1;
    }

    private static boolean isRound(List<Integer> furrow) {
        return furrow.size() >= 4 && isNext(furrow.get(0), furrow.get(furrow.size() - 1));
    }

    private static boolean hasStep(List<Integer> furrow, int a, int b) {
        int i = furrow.indexOf(a);
        int k = furrow.indexOf(b);
        if (i < 0 || k < 0) {
            return false;
        }
        int apart = Math.abs(i - k);
        return apart == 1 || isRound(furrow) && apart == furrow.size() - 1;
    }

    private boolean gap(int a, int b) {
        return isNext(a, b) && !s.shut[a][b] && (s.eaten[a][b] || hasStep(s.furrow, a, b));
    }

    private static int pairs(boolean[][] table) {
        int n = 0;
        for (int a = 0; a < 36; a++) {
            for (int b = a + 1; b < 36; b++) {
                n += table[a][b] ? 1 : 0;
            }
        }
        return n;
    }

    int plough(int square) {
        if (!sq(square)) {
            return -1;
        }
        List<Integer> f = s.furrow;
        if (f.contains(square) || !f.isEmpty() && !isNext(f.get(f.size() - 1), square)) {
            return -2;
        }
        f.add(square);
        return f.size();
    }

    int back(int n) {
        if (!in(n, 1, 36)) {
            return -1;
        }
        if (n > s.furrow.size()) {
            return -2;
        }
        s.furrow = new ArrayList<>(s.furrow.subList(0, s.furrow.size() - n));
        return s.furrow.size();
    }

    int deer(int square, int side) {
        if (!sq(square) || !in(side, 0, 3)) {
            return -1;
        }
        int b = next(square, side);
        if (b < 0 || s.eaten[square][b]) {
            return -2;
        }
        if (pairs(s.eaten) == 10) {
            return -3;
        }
        s.eaten[square][b] = true;
        s.eaten[b][square] = true;
        return pairs(s.eaten);
    }

    int shut(int square, int side, boolean is) {
        if (!sq(square) || !in(side, 0, 3)) {
            return -1;
        }
        int b = next(square, side);
        if (b < 0) {
            return -2;
        }
        int was = s.shut[square][b] ? 1 : 0;
        s.shut[square][b] = is;
        s.shut[b][square] = is;
        return was;
    }

    int straw(int square, boolean is) {
        if (!sq(square)) {
            return -1;
        }
        int was = s.straw[square] ? 1 : 0;
        s.straw[square] = is;
        return was;
    }

    int set(int what, int v) {
        if (!in(what, 0, 2) || !in(v, 0, what == 0 ? 9 : 35)) {
            return -1;
        }
        int was = s.set[what];
        s.set[what] = v;
        return was;
    }

    int told(int square, int what) {
        if (!sq(square) || !in(what, 0, 2)) {
            return -1;
        }
        if (what == 0) {
            int place = s.furrow.indexOf(square);
            return place < 0 ? -4 : place;
        }
        if (what == 2) {
            return s.straw[square] ? 1 : 0;
        }
        int sides = 0;
        for (int side = 0; side < 4; side++) {
            int b = next(square, side);
            sides += b >= 0 && gap(square, b) ? 1 << side : 0;
        }
        return sides;
    }

    int type(long w, int n) {
        if (!in(n, 1, 8)) {
            return -1;
        }
        StringBuilder more = new StringBuilder();
        for (int i = n - 1; i >= 0; i--) {
            int letter = (int) (w >>> 8 * i) & 255;
            if (!in(letter, 32, 126)) {
                return -1;
            }
            more.append((char) letter);
        }
        if (tape.length() + n > 80) {
            return -3;
        }
        tape += more;
        return tape.length();
    }

    /** The place on the tape of the i-th byte that is no blank; that of the end, if there are not so many. */
    private static int fault(String typed, int i) {
        int place = 0;
        for (int left = i; place < typed.length() && (typed.charAt(place) == ' ' || left > 0); place++) {
            left -= typed.charAt(place) == ' ' ? 0 : 1;
        }
        return -20 - place;
    }

    int furrow() {
        String typed = tape;
        String text = tape.replace(" ", "");
        tape = "";
        List<Integer> f = new ArrayList<>();
        for (int i = 0; i < 2; i++) {
            if (i >= text.length() || !in(text.charAt(i), '0', '5')) {
                return fault(typed, i);
            }
        }
        f.add((text.charAt(0) - '0') * 6 + text.charAt(1) - '0');
        for (int i = 2; i < text.length(); i++) {
            int side = "ulrd".indexOf(text.charAt(i));
            int to = side < 0 ? -1 : next(f.get(f.size() - 1), side);
            if (to < 0 || f.contains(to)) {
                return fault(typed, i);
            }
            f.add(to);
        }
        s.furrow = f;
        return f.size();
    }

    int seen() {
        String typed = tape;
        String text = tape.replace(" ", "");
        tape = "";
        List<int[]> told = new ArrayList<>();
        for (int i = 0; i <= text.length(); i++) {
            char c = i < text.length() ? text.charAt(i) : 0;
            int inPart = i % 5;
            if (inPart < 2 && !in(c, '0', '5')) {
                return fault(typed, i);
            }
            if (inPart == 2) {
                int side = c == 0 ? -1 : "ulrd".indexOf(c);
                int a = (text.charAt(i - 2) - '0') * 6 + text.charAt(i - 1) - '0';
                if (side < 0 || next(a, side) < 0) {
                    return fault(typed, i);
                }
                told.add(new int[] {a, next(a, side), 0});
            }
            if (inPart == 3) {
                int[] now = told.get(told.size() - 1);
                now[2] = c;
                if (c != '+' && c != '-' || told.stream().anyMatch(t -> unlike(t, now))) {
                    return fault(typed, i);
                }
            }
            if (inPart == 4 && c == 0) {
                s.seen = told;
                return told.size();
            }
            if (inPart == 4 && (c != ',' || told.size() == 12)) {
                return fault(typed, i);
            }
        }
        throw new IllegalStateException(text);
    }

    private static boolean unlike(int[] t, int[] now) {
        boolean isSame = t[0] == now[0] && t[1] == now[1] || t[0] == now[1] && t[1] == now[0];
        return isSame && t[2] != now[2];
    }

    int count(int what) {
        switch (what) {
            case 0: return s.furrow.size();
            case 1: return isRound(s.furrow) ? 1 : 0;
            case 2: return gaps().size();
            case 3: return pairs(s.eaten);
            case 4: return pairs(s.shut);
            case 5: {
                int n = 0;
                for (boolean is : s.straw) {
                    n += is ? 1 : 0;
                }
                return n;
            }
            case 6: return s.seen.size();
            default: return -1;
        }
    }

    /** All gaps as square and side 2 or 3, in that order. */
    private List<int[]> gaps() {
        List<int[]> all = new ArrayList<>();
        for (int a = 0; a < 36; a++) {
            for (int side = 2; side < 4; side++) {
                int b = next(a, side);
                if (b >= 0 && gap(a, b)) {
                    all.add(new int[] {a, side});
                }
            }
        }
        return all;
    }

    private boolean passable(int kind, int a, int b) {
        if (b < 0 || kind != 3 && s.straw[b]) {
            return false;
        }
        return gap(a, b) || s.set[0] < (kind == 3 ? 7 : 3);
    }

    private static int turned(int side, int quarters) {
        int i = 0;
        while (CLOCKWISE[i] != side) {
            i++;
        }
        return CLOCKWISE[(i + quarters) % 4];
    }

    /** One step of a walker {kind, square, side}. */
    private void step(int[] w, int[] marks) {
        int[] order = w[0] == 0 ? new int[] {0, 1, 2, 3} : new int[] {3, 0, 1, 2};
        List<Integer> sides = new ArrayList<>();
        for (int quarters : order) {
            int side = turned(w[2], quarters);
            if (passable(w[0], w[1], next(w[1], side))) {
                sides.add(side);
            }
        }
        if (sides.isEmpty()) {
            return;
        }
        if (w[0] >= 2) {
            int from = w[1];
            // A stable sort: of like ones the first stays first.
            sides.sort((a, b) -> marks[next(from, a)] - marks[next(from, b)]);
        }
        marks[w[1]]++;
        w[2] = sides.get(0);
        w[1] = next(w[1], w[2]);
    }

    private int[] path(int kind, int square, int side) {
        int[] w = {kind, square, side};
        int[] marks = new int[36];
        int[] squares = new int[1000];
        for (int i = 0; i < 1000; i++) {
            squares[i] = w[1];
            if (w[1] != s.set[1]) {
                step(w, marks);
            }
        }
        return squares;
    }

    private static boolean isStart(int kind, int square, int side) {
        return in(kind, 0, 3) && sq(square) && in(side, 0, 3);
    }

    int walk(int kind, int square, int side) {
        if (!isStart(kind, square, side)) {
            return -1;
        }
        int[] squares = path(kind, square, side);
        for (int i = 0; i < 1000; i++) {
            if (squares[i] == s.set[1]) {
                return i;
            }
        }
        return -4;
    }

    int at(int kind, int square, int side, int steps) {
        return !isStart(kind, square, side) || !in(steps, 0, 999) ? -1 : path(kind, square, side)[steps];
    }

    int worst(int kind, int side, int what) {
        if (!isStart(kind, 0, side) || !in(what, 0, 2)) {
            return -1;
        }
        int[] all = new int[36];
        int never = 0;
        int first = 0;
        for (int a = 0; a < 36; a++) {
            all[a] = walk(kind, a, side);
            never += all[a] < 0 ? 1 : 0;
            first = all[a] > all[first] ? a : first;
        }
        return what == 0 ? all[first] : what == 1 ? first : never;
    }

    int two(int kind, int square, int other, int square2, int side) {
        if (!isStart(kind, square, side) || !isStart(other, square2, side)) {
            return -1;
        }
        int a = walk(kind, square, side);
        int b = walk(other, square2, side);
        if (a == 0 || b == 0) {
            return 0;
        }
        int first = a < 0 ? FAR_OFF : 2 * a - 1;
        int second = b < 0 ? FAR_OFF : 2 * b;
        int both = Math.min(first, second);
        return both == FAR_OFF ? -4 : both;
    }

    private int[][] closure(int[][] d) {
        for (int m = 0; m < 36; m++) {
            for (int a = 0; a < 36; a++) {
                for (int b = 0; b < 36; b++) {
                    d[a][b] = Math.min(d[a][b], d[a][m] + d[m][b]);
                }
            }
        }
        return d;
    }

    private int[][] steps() {
        int[][] d = new int[36][36];
        for (int a = 0; a < 36; a++) {
            for (int b = 0; b < 36; b++) {
                d[a][b] = a == b ? 0 : isNext(a, b) && passable(0, a, b) ? 1 : FAR_OFF;
            }
        }
        return closure(d);
    }

    private static int orNone(int steps) {
        return steps >= FAR_OFF ? -4 : steps;
    }

    int far(int square) {
        return sq(square) ? orNone(steps()[square][s.set[1]]) : -1;
    }

    int roped(int square) {
        if (!sq(square)) {
            return -1;
        }
        int[][] d = steps();
        int least = d[square][s.set[1]];
        for (int a = 0; a < 36; a++) {
            for (int b = 0; b < 36; b++) {
                if (isNext(a, b) && !s.straw[b]) {
                    least = Math.min(least, d[square][a] + 1 + d[b][s.set[1]]);
                }
            }
        }
        return orNone(least);
    }

    int parts() {
        int[] part = new int[36];
        Arrays.setAll(part, a -> a);
        for (int[] g : gaps()) {
            int from = part[g[0]];
            int to = part[next(g[0], g[1])];
            for (int a = 0; a < 36; a++) {
                part[a] = part[a] == from ? to : part[a];
            }
        }
        return (int) Arrays.stream(part).distinct().count();
    }

    private int[] best() {
        int[] best = null;
        for (int[] g : gaps()) {
            shut(g[0], g[1], true);
            int then = far(s.set[2]);
            shut(g[0], g[1], false);
            if (then >= 0 && (best == null || then > best[2])) {
                best = new int[] {g[0], g[1], then};
            }
        }
        return best;
    }

    int shutting(int what) {
        if (!in(what, 0, 2)) {
            return -1;
        }
        int[] best = best();
        return best == null ? -4 : best[what];
    }

    int days(int n) {
        if (!in(n, 1, 20)) {
            return -1;
        }
        for (int day = 0; day < n; day++) {
            int[] best = best();
            if (best == null) {
                return day;
            }
            shut(best[0], best[1], true);
        }
        return n;
    }

    int bell(int square) {
        if (!sq(square)) {
            return -1;
        }
        int[][] d = new int[36][36];
        for (int a = 0; a < 36; a++) {
            for (int b = 0; b < 36; b++) {
                d[a][b] = a == b ? 0 : !isNext(a, b) ? FAR_OFF : gap(a, b) ? 5 : 5 + s.set[0];
            }
        }
        return Math.max(0, 40 - closure(d)[s.set[1]][square]);
    }

    private static void allFurrows(List<Integer> f, int many, List<List<Integer>> all) {
        if (f.size() == many) {
            all.add(new ArrayList<>(f));
            return;
        }
        for (int side = 0; side < 4; side++) {
            int to = next(f.get(f.size() - 1), side);
            if (to >= 0 && !f.contains(to)) {
                f.add(to);
                allFurrows(f, many, all);
                f.remove(f.size() - 1);
            }
        }
    }

    int fit(int square, int many, int k) {
        if (!sq(square) || !in(many, 2, 9) || !in(k, -2, many - 1)) {
            return -1;
        }
        List<List<Integer>> all = new ArrayList<>();
        allFurrows(new ArrayList<>(List.of(square)), many, all);
        all.removeIf(f -> s.seen.stream().anyMatch(t -> hasStep(f, t[0], t[1]) != (t[2] == '+')));
        if (k == -1) {
            return all.size();
        }
        List<Integer> hardest = null;
        int most = -4;
        for (List<Integer> f : all) {
            int place = f.indexOf(s.set[1]);
            int steps = place > 0 && isRound(f) ? Math.min(place, many - place) : place;
            if (place >= 0 && steps > most) {
                most = steps;
                hardest = f;
            }
        }
        return hardest == null || k == -2 ? most : hardest.get(k);
    }

    int image() {
        image = s.twin();
        return 1;
    }

    int restore() {
        if (image == null) {
            return -4;
        }
        s = image.twin();
        return 1;
    }

    private int trouble(int sheet, int lane, int from, int n) {
        if (sheets[sheet] == null) {
            return -11;
        }
        if (lanes[sheet] != lane) {
            return -12;
        }
        return from < 0 || (long) from + n > sheets[sheet].length ? -13 : 0;
    }

    int go(int sheet, int lane, int from, int n) {
        if (!in(sheet, 0, 3) || !in(lane, 0, 2) || !in(n, 1, 36)) {
            return -1;
        }
        if (trouble(sheet, lane, from, n) != 0) {
            return trouble(sheet, lane, from, n);
        }
        List<Integer> f = new ArrayList<>();
        for (int i = from; i < from + n; i++) {
            int v = sheets[sheet][i];
            if (!sq(v) || f.contains(v) || !f.isEmpty() && !isNext(f.get(f.size() - 1), v)) {
                return -2;
            }
            f.add(v);
        }
        s.furrow = f;
        return n;
    }

    int sheet(int sheet, int lane, int n) {
        if (!in(sheet, 0, 3) || !in(lane, 0, 2) || n > 36) {
            return -1;
        }
        if (n < 0) {
            return -14;
        }
        sheets[sheet] = new int[n];
        lanes[sheet] = lane;
        return n;
    }

    int drop(int sheet) {
        if (!in(sheet, 0, 3)) {
            return -1;
        }
        if (sheets[sheet] == null) {
            return -11;
        }
        int had = sheets[sheet].length;
        sheets[sheet] = null;
        return had;
    }

    int item(int sheet, int lane, int i, int v) {
        if (!in(sheet, 0, 3) || !in(lane, 0, 2)) {
            return -1;
        }
        if (trouble(sheet, lane, i, 1) != 0) {
            return trouble(sheet, lane, i, 1);
        }
        sheets[sheet][i] = lane == 0 ? (byte) v : lane == 1 ? (short) v : v;
        return 1;
    }

    int film(int sheet, int lane, int from) {
        if (!in(sheet, 0, 3) || !in(lane, 0, 2)) {
            return -1;
        }
        if (trouble(sheet, lane, from, 36) != 0) {
            return trouble(sheet, lane, from, 36);
        }
        for (int a = 0; a < 36; a++) {
            sheets[sheet][from + a] = far(a);
        }
        return 36;
    }
}
