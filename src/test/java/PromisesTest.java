/** For each promise of the document: ordinary calls, the edges that it names, and wrong ones. */
public final class PromisesTest {
    private static final int BAD = -1, NOT = -2, FULL = -3, NONE = -4, NULL = -11, CAST = -12, INDEX = -13, SIZE = -14;
    private static final int UP = 0, LEFT = 1, RIGHT = 2, DOWN = 3;
    private static final int BLIND = 0, WALL = 1, CHALK = 2, CHILD = 3;
    private static final int LEAST = Integer.MIN_VALUE, MOST = Integer.MAX_VALUE;
    private static final String SNAKE = "00rrrrrdllllldrrrrrdllllldrrrrrdlllll";

    private static int passed = 0;
    private static int failed = 0;
    private static String promise = "";

    private static void due(String call, int got, int want) {
        if (got == want) {
            passed++;
            return;
        }
        failed++;
        System.out.println("FAILED " + promise + ": " + call + " answered " + got + ", due is " + want);
    }

    private static void write(PloughMaze x, String text) {
        // Eight bytes a call: an object is not to be asked more than 512 times.
        for (int i = 0; i < text.length(); i += 8) {
            int n = Math.min(8, text.length() - i);
            long w = 0;
            for (int k = 0; k < n; k++) {
                w = w << 8 | text.charAt(i + k);
            }
            due("type " + text, x.type(w, n) < 0 ? -1 : 1, 1);
        }
    }

    private static int furrow(PloughMaze x, String text) {
        write(x, text);
        return x.furrow();
    }

    private static int seen(PloughMaze x, String text) {
        write(x, text);
        return x.seen();
    }

    private static PloughMaze with(String furrow) {
        PloughMaze x = new PloughMaze();
        furrow(x, furrow);
        return x;
    }

    private static void p1NewObject() {
        PloughMaze x = new PloughMaze();
        for (int square = 0; square < 36; square++) {
            due("told 0", x.told(square, 0), NONE);
            due("told 1", x.told(square, 1), 0);
            due("told 2", x.told(square, 2), 0);
        }
        for (int what = 0; what <= 6; what++) {
            due("count " + what, x.count(what), 0);
        }
        due("months", x.set(0, 0), 9);
        due("middle", x.set(1, 0), 14);
        due("door", x.set(2, 1), 0);
        due("tape", x.type(65, 1), 1);
        due("sheet", x.drop(0), NULL);
        due("image", x.restore(), NONE);
    }

    private static void p2Plough() {
        PloughMaze x = new PloughMaze();
        due("plough -1", x.plough(-1), BAD);
        due("plough 36", x.plough(36), BAD);
        due("plough least", x.plough(LEAST), BAD);
        due("plough most", x.plough(MOST), BAD);
        due("plough 5", x.plough(5), 1);
        due("the same", x.plough(5), NOT);
        due("over the edge", x.plough(6), NOT);
        due("aslant", x.plough(10), NOT);
        due("two off", x.plough(3), NOT);
        due("down", x.plough(11), 2);
        due("back again", x.plough(5), NOT);
        due("left", x.plough(10), 3);
        due("up", x.plough(4), 4);
        due("in the way", x.plough(5), NOT);
        due("right", with("22l").plough(7), 3);
        due("sides", x.told(10, 1), 1 << UP | 1 << RIGHT);
    }

    private static void p3Back() {
        PloughMaze x = with("22uldd");
        due("back 0", x.back(0), BAD);
        due("back 37", x.back(37), BAD);
        due("back -1", x.back(-1), BAD);
        due("back least", x.back(LEAST), BAD);
        due("back 6", x.back(6), NOT);
        due("back 36", x.back(36), NOT);
        due("stays", x.count(0), 5);
        due("back 2", x.back(2), 3);
        due("gaps", x.count(2), 2);
        due("place", x.told(13, 0), NONE);
        due("place", x.told(7, 0), 2);
        due("again", x.plough(13), 4);
        due("round again", x.count(1), 1);
        due("back 4", x.back(4), 0);
        due("empty", x.back(1), NOT);
        due("anywhere", x.plough(35), 1);
        PloughMaze all = with(SNAKE);
        due("all", all.back(36), 0);
        due("no gap", all.count(2), 0);
    }

    private static void p4Deer() {
        PloughMaze x = new PloughMaze();
        due("square", x.deer(-1, UP), BAD);
        due("square", x.deer(36, UP), BAD);
        due("side", x.deer(0, -1), BAD);
        due("side", x.deer(0, 4), BAD);
        due("up", x.deer(5, UP), NOT);
        due("left", x.deer(30, LEFT), NOT);
        due("right", x.deer(11, RIGHT), NOT);
        due("down", x.deer(30, DOWN), NOT);
        due("first", x.deer(0, RIGHT), 1);
        due("the same", x.deer(1, LEFT), NOT);
        due("gap", x.told(0, 1), 1 << RIGHT);
        due("gap", x.told(1, 1), 1 << LEFT);
        furrow(x, "30rr");
        due("where a gap is", x.deer(18, RIGHT), 2);
        due("counted once", x.count(2), 3);
        x.shut(35, UP, true);
        due("where it is shut", x.deer(29, DOWN), 3);
        due("corn still", x.told(35, 1), 0);
        for (int i = 0; i < 7; i++) {
            due("deer", x.deer(i < 5 ? 6 + i : 7 + i, DOWN), 4 + i);
        }
        due("full", x.deer(1, RIGHT), FULL);
        due("not before full", x.deer(0, RIGHT), NOT);
        due("no square before full", x.deer(0, UP), NOT);
        due("bad before full", x.deer(0, 9), BAD);
        due("eaten", x.count(3), 10);
    }

    private static void p5Shut() {
        PloughMaze x = with("00r");
        due("square", x.shut(36, UP, true), BAD);
        due("square", x.shut(-1, UP, false), BAD);
        due("side", x.shut(0, 4, true), BAD);
        due("side", x.shut(0, -1, true), BAD);
        due("no square", x.shut(0, LEFT, true), NOT);
        due("no square", x.shut(35, DOWN, false), NOT);
        due("open", x.shut(0, RIGHT, false), 0);
        due("shut", x.shut(0, RIGHT, true), 0);
        due("corn", x.told(0, 1), 0);
        due("was", x.shut(1, LEFT, true), 1);
        due("one", x.count(4), 1);
        x.deer(0, RIGHT);
        due("whatever else", x.told(0, 1), 0);
        due("was", x.shut(1, LEFT, false), 1);
        due("gap", x.told(0, 1), 1 << RIGHT);
        due("where corn is", x.shut(20, UP, true), 0);
        due("one", x.count(4), 1);
        x.plough(7);
        x.plough(6);
        x.shut(0, DOWN, true);
        due("round all the same", x.count(1), 1);
        due("the ring is corn", x.told(6, 1), 1 << RIGHT);
    }

    private static void p6Straw() {
        PloughMaze x = new PloughMaze();
        due("square", x.straw(36, true), BAD);
        due("square", x.straw(-1, false), BAD);
        due("none", x.straw(35, false), 0);
        due("new", x.straw(35, true), 0);
        due("was", x.straw(35, true), 1);
        due("one", x.count(5), 1);
        due("told", x.told(35, 2), 1);
        due("other", x.told(3, 2), 0);
        due("away", x.straw(35, false), 1);
        due("away", x.straw(35, false), 0);
        due("none", x.count(5), 0);
    }

    private static void p7Set() {
        PloughMaze x = new PloughMaze();
        due("what", x.set(-1, 0), BAD);
        due("what", x.set(3, 0), BAD);
        due("months", x.set(0, 10), BAD);
        due("months", x.set(0, -1), BAD);
        due("middle", x.set(1, 36), BAD);
        due("door", x.set(2, -1), BAD);
        due("door", x.set(2, MOST), BAD);
        due("months", x.set(0, 0), 9);
        due("months", x.set(0, 9), 0);
        due("middle", x.set(1, 35), 14);
        due("middle", x.set(1, 0), 35);
        due("door", x.set(2, 35), 0);
        due("door may be the middle", x.set(2, 0), 35);
        due("all their own", x.set(0, 3), 9);
        due("at the middle", x.walk(BLIND, 0, UP), 0);
    }

    private static void p8Told() {
        PloughMaze x = with("11rd");
        due("square", x.told(-1, 0), BAD);
        due("square", x.told(36, 1), BAD);
        due("what", x.told(0, 3), BAD);
        due("what", x.told(0, -1), BAD);
        due("place", x.told(7, 0), 0);
        due("place", x.told(14, 0), 2);
        due("none", x.told(0, 0), NONE);
        due("sides", x.told(8, 1), 1 << LEFT | 1 << DOWN);
        due("sides", x.told(7, 1), 1 << RIGHT);
        x.plough(13);
        due("round", x.told(7, 1), 1 << RIGHT | 1 << DOWN);
        due("round", x.told(13, 1), 1 << RIGHT | 1 << UP);
        x.straw(8, true);
        due("straw", x.told(8, 2), 1);
        due("straw", x.told(7, 2), 0);
    }

    private static void p9Type() {
        PloughMaze x = new PloughMaze();
        due("n", x.type(0x2020202020202020L, 0), BAD);
        due("n", x.type(0x2020202020202020L, 9), BAD);
        due("n", x.type(65, LEAST), BAD);
        due("byte", x.type(31, 1), BAD);
        due("byte", x.type(127, 1), BAD);
        due("byte", x.type(128 + 65, 1), BAD);
        due("byte", x.type(0x4100, 2), BAD);
        due("byte", x.type(65, 2), BAD);
        due("byte", x.type(-1L, 8), BAD);
        due("only the lowest", x.type(0xFF0000000000207EL, 2), 2);
        due("eight", x.type(0x7E20202020202020L, 8), 10);
        due("first -", x.furrow(), -21);
        due("highest first", x.type('0' << 16 | '1' << 8 | 'r', 3), 3);
        due("behind it", x.type('d', 1), 4);
        due("furrow", x.furrow(), 3);
        due("01", x.told(1, 0), 0);
        due("12", x.told(8, 0), 2);
        for (int i = 1; i <= 9; i++) {
            due("type", x.type(0x3030303030303030L, 8), 8 * i);
        }
        due("type 79", x.type(0x30303030303030L, 7), 79);
        due("full", x.type(0x3030, 2), FULL);
        due("bad before full", x.type(1, 2), BAD);
        due("the last", x.type(0x30, 1), 80);
        due("full", x.type(0x30, 1), FULL);
        due("fault", x.furrow(), -22);
        due("empty", x.type(0x30, 1), 1);
    }

    private static void p10Furrow() {
        PloughMaze x = new PloughMaze();
        due("nothing", x.furrow(), -20);
        due("all", furrow(x, SNAKE), 36);
        due("no step", furrow(x, "55"), 1);
        due("in place of it", x.count(2), 0);
        due("in place of it", x.told(0, 0), NONE);
        due("digit", furrow(x, "60"), -20);
        due("digit", furrow(x, "0"), -21);
        due("digit", furrow(x, "0/"), -21);
        due("letter", furrow(x, "00R"), -22);
        due("letter", furrow(x, "00r1"), -23);
        due("edge up", furrow(x, "00u"), -22);
        due("edge left", furrow(x, "10l"), -22);
        due("edge right", furrow(x, "05r"), -22);
        due("edge down", furrow(x, "50d"), -22);
        due("ploughed", furrow(x, "00rdlu"), -25);
        due("a place with blanks", furrow(x, "  0 0 r r  l "), -31);
        due("stays", x.told(35, 0), 0);
        due("empty", x.furrow(), -20);
        due("one blank", furrow(x, " "), -21);
        due("only blanks", furrow(x, "   "), -23);
        due("eighty blanks", furrow(x, " ".repeat(80)), -100);
        due("the end behind blanks", furrow(x, " 0  "), -24);
        due("the first byte behind blanks", furrow(x, "   6"), -23);
        due("the second byte behind blanks", furrow(x, "0  6"), -23);
        due("the edge behind blanks", furrow(x, "0 0 u "), -24);
        due("blanks", furrow(x, " 2 2 u r d l "), -31);
        due("blanks", furrow(x, " 2 2 u r d "), 4);
        due("round", x.count(1), 1);
        due("gaps", x.count(2), 4);
    }

    private static void p11Seen() {
        PloughMaze x = new PloughMaze();
        due("nothing", x.seen(), -20);
        due("one", seen(x, "00r+"), 1);
        due("told", x.count(6), 1);
        due("half", seen(x, "00r"), -23);
        due("side", seen(x, "00u+"), -22);
        due("side", seen(x, "00x+"), -22);
        due("sign", seen(x, "00r*"), -23);
        due("digit", seen(x, "06r+"), -21);
        due("digit", seen(x, "r"), -20);
        due("comma", seen(x, "00r+00r+"), -24);
        due("behind a comma", seen(x, "00r+,"), -25);
        due("unlike", seen(x, "00r+,00r-"), -28);
        due("unlike", seen(x, "00r-,55u+,01l+"), -33);
        due("a place with blanks", seen(x, " 00 r+ ,01 l-"), -32);
        due("one blank", seen(x, " "), -21);
        due("eighty blanks", seen(x, " ".repeat(80)), -100);
        due("the end behind blanks", seen(x, "00 r  "), -26);
        due("behind a comma and blanks", seen(x, "00r+,  "), -27);
        due("a comma behind blanks", seen(x, "00r+  ;"), -26);
        due("a side behind blanks", seen(x, "0 0 u+"), -24);
        due("stays", x.count(6), 1);
        due("stays", x.fit(0, 2, -1), 1);
        due("twice", seen(x, "00r-,01l-, 00r-"), 3);
        due("in place of it", x.fit(0, 2, -1), 1);
        due("in place of it", x.fit(0, 2, -2), NONE);
        due("corn", x.fit(1, 2, -1), 2);
        due("unlike of before", seen(x, "00r+"), 1);
        String part = "00r+,";
        due("twelve", seen(x, part.repeat(11) + "01l+"), 12);
        due("thirteen", seen(x, part.repeat(12) + "01l+"), -79);
        due("twelve told", x.count(6), 12);
        due("empty", x.seen(), -20);
        due("furrow has the tape, too", furrow(x, "00r+"), -23);
    }

    private static void p12Count() {
        PloughMaze x = with("00rdl");
        due("what", x.count(-1), BAD);
        due("what", x.count(7), BAD);
        due("squares", x.count(0), 4);
        due("round", x.count(1), 1);
        due("gaps", x.count(2), 4);
        x.deer(0, RIGHT);
        x.deer(20, DOWN);
        due("gaps", x.count(2), 5);
        due("eaten", x.count(3), 2);
        x.shut(20, DOWN, true);
        x.shut(0, DOWN, true);
        x.shut(33, UP, true);
        due("gaps", x.count(2), 3);
        due("eaten", x.count(3), 2);
        due("shut", x.count(4), 3);
        x.straw(1, true);
        x.straw(35, true);
        due("straw", x.count(5), 2);
        seen(x, "00r+,01l+");
        due("seen", x.count(6), 2);
        due("three are not round", with("00rd").count(1), 0);
        due("two are not round", with("00r").count(1), 0);
        due("two are one gap", with("00r").count(2), 1);
        due("not next", with("00rrdd").count(1), 0);
        due("six", with("00rrdll").count(1), 1);
        due("over the edge", with("05dlllllu").count(1), 0);
    }

    /** A crossing at 14 - reached by none - with arms: told by which way each kind turns there. */
    private static PloughMaze crossing() {
        PloughMaze x = new PloughMaze();
        x.deer(20, UP);
        x.deer(20, LEFT);
        x.deer(20, RIGHT);
        x.deer(20, DOWN);
        x.set(1, 35);
        return x;
    }

    private static void p13Walk() {
        PloughMaze x = with("00rrddll");
        due("kind", x.walk(4, 0, UP), BAD);
        due("kind", x.walk(-1, 0, UP), BAD);
        due("square", x.walk(0, 36, UP), BAD);
        due("square", x.walk(0, -1, UP), BAD);
        due("side", x.walk(0, 0, 4), BAD);
        due("side", x.walk(0, 0, -1), BAD);
        for (int kind = 0; kind < 4; kind++) {
            due("begins there", x.walk(kind, 14, LEFT), 0);
            due("walk", x.walk(kind, 0, DOWN), 4);
            due("never", x.walk(kind, 35, UP), NONE);
        }
        due("blind past it", x.walk(BLIND, 13, LEFT), 3);
        due("the wall's way", x.walk(WALL, 13, LEFT), 3);
        // Without corn the blind one goes round along the edge for good.
        x.set(0, 2);
        due("blind in the open", x.walk(BLIND, 0, RIGHT), NONE);
        due("a wall's one goes round", x.walk(WALL, 0, RIGHT), NONE);
        // By 7 6 12 18 19 20: the first unmarked one from its left on.
        due("with chalk", x.walk(CHALK, 13, RIGHT), 7);
        x.set(0, 3);
        due("corn stops", x.walk(CHALK, 35, RIGHT), NONE);
        due("a child slips through", x.walk(CHILD, 15, LEFT) > 0 ? 1 : 0, 1);
        x.set(0, 6);
        due("a child slips through", x.walk(CHILD, 15, LEFT) > 0 ? 1 : 0, 1);
        x.set(0, 7);
        due("no child", x.walk(CHILD, 15, LEFT), NONE);
        x.straw(1, true);
        due("straw stops", x.walk(CHALK, 0, RIGHT), NONE);
        due("no child", x.walk(CHILD, 0, RIGHT), 4);
        due("who begins there goes away", x.walk(BLIND, 1, RIGHT), 3);
        x.straw(14, true);
        due("straw in the middle", x.walk(CHALK, 2, DOWN), NONE);
        due("begins there", x.walk(CHALK, 14, DOWN), 0);
        due("shut", x.shut(14, UP, true), 0);
        due("shut", x.walk(CHILD, 2, DOWN), NONE);
    }

    private static void p14At() {
        PloughMaze x = crossing();
        due("kind", x.at(4, 0, 0, 0), BAD);
        due("square", x.at(0, 36, 0, 0), BAD);
        due("side", x.at(0, 0, 4, 0), BAD);
        due("steps", x.at(0, 0, 0, -1), BAD);
        due("steps", x.at(0, 0, 0, 1000), BAD);
        due("none", x.at(0, 20, 0, 0), 20);
        due("stays", x.at(0, 0, 0, 999), 0);
        due("blind ahead", x.at(BLIND, 20, UP, 1), 14);
        due("wall's left", x.at(WALL, 20, UP, 1), 19);
        due("chalk's left", x.at(CHALK, 20, UP, 1), 19);
        x.straw(14, true);
        due("blind's right", x.at(BLIND, 20, UP, 1), 21);
        x.straw(21, true);
        due("blind's back before its left", x.at(BLIND, 20, UP, 1), 26);
        x.straw(26, true);
        due("blind's left", x.at(BLIND, 20, UP, 1), 19);
        x.straw(19, true);
        due("nowhere", x.at(BLIND, 20, UP, 5), 20);
        due("a child goes", x.at(CHILD, 20, UP, 1), 19);
        x.straw(14, false);
        due("wall's ahead", x.at(WALL, 20, UP, 1), 14);
        x.straw(14, true);
        x.straw(21, false);
        x.straw(26, false);
        due("wall's right before its back", x.at(WALL, 20, UP, 1), 21);
        x = crossing();
        int[] wall = {20, 19, 20, 14, 20, 21, 20, 26, 20, 19};
        int[] blind = {20, 14, 20, 26, 20, 14};
        // At last each is marked once, and the first is at its left again.
        int[] chalk = {20, 14, 20, 21, 20, 26, 20, 19, 20, 14};
        for (int i = 0; i < wall.length; i++) {
            due("wall " + i, x.at(WALL, 20, UP, i), wall[i]);
            due("chalk " + i, x.at(CHALK, 20, RIGHT, i), chalk[i]);
            due("child " + i, x.at(CHILD, 20, RIGHT, i), chalk[i]);
        }
        for (int i = 0; i < blind.length; i++) {
            due("blind " + i, x.at(BLIND, 20, UP, i), blind[i]);
        }
        PloughMaze way = with("00rrddll");
        due("there", way.at(BLIND, 0, RIGHT, 4), 14);
        due("stays there", way.at(BLIND, 0, RIGHT, 5), 14);
        due("stays there", way.at(BLIND, 0, RIGHT, 999), 14);
        due("1000 is bad", way.at(BLIND, 0, RIGHT, 1000), BAD);
    }

    private static void p15Worst() {
        PloughMaze x = with("00rrddll");
        due("kind", x.worst(4, 0, 0), BAD);
        due("side", x.worst(0, 4, 0), BAD);
        due("what", x.worst(0, 0, 3), BAD);
        due("what", x.worst(0, 0, -1), BAD);
        // From 8 it has its left, 2, before its right.
        due("steps", x.worst(WALL, RIGHT, 0), 7);
        due("square", x.worst(WALL, RIGHT, 1), 8);
        PloughMaze like = with("21rr");
        due("like ones", like.worst(CHILD, UP, 0), 1);
        due("the first of like ones", like.worst(CHILD, UP, 1), 13);
        due("never", x.worst(WALL, RIGHT, 2), 29);
        // From 2 on to 0 and all the way back.
        due("steps", x.worst(BLIND, LEFT, 0), 6);
        due("square", x.worst(BLIND, LEFT, 1), 2);
        x.straw(1, true);
        due("straw", x.worst(BLIND, RIGHT, 0), 3);
        due("straw", x.worst(BLIND, RIGHT, 1), 1);
        due("straw", x.worst(BLIND, RIGHT, 2), 30);
        PloughMaze corn = new PloughMaze();
        due("none but the middle", corn.worst(CHILD, UP, 0), 0);
        due("none but the middle", corn.worst(CHILD, UP, 1), 14);
        due("none but the middle", corn.worst(CHILD, UP, 2), 35);
    }

    private static void p16Far() {
        PloughMaze x = with("00rrddll");
        due("square", x.far(36), BAD);
        due("square", x.far(-1), BAD);
        due("far", x.far(0), 4);
        due("far", x.far(12), 2);
        due("there", x.far(14), 0);
        due("none", x.far(35), NONE);
        due("no rope", x.far(15), NONE);
        due("no rope", x.far(7), NONE);
        x.deer(0, DOWN);
        x.deer(6, DOWN);
        x.straw(1, true);
        due("another way", x.far(0), 4);
        due("from straw", x.far(1), 3);
        x.straw(6, true);
        due("straw", x.far(0), NONE);
        x.set(0, 3);
        due("corn", x.far(35), NONE);
        x.set(0, 2);
        due("low corn", x.far(35), 6);
        due("straw all the same", x.far(0), NONE);
        due("low corn", x.far(7), 2);
        x.straw(14, true);
        due("straw in the middle", x.far(13), NONE);
        due("straw in the middle", x.far(14), 0);
        x.straw(14, false);
        x.set(1, 0);
        due("another middle", x.far(1), 1);
    }

    private static void p17Roped() {
        PloughMaze x = with("00rrrrrdllllldrrr");
        due("square", x.roped(36), BAD);
        due("square", x.roped(-1), BAD);
        due("there", x.roped(14), 0);
        due("once", x.roped(2), 6);
        due("once is not twice", x.roped(21), 2);
        due("once is not twice", x.roped(26), NONE);
        due("across", x.roped(20), 1);
        due("not needed", x.roped(13), 1);
        due("fewest", x.roped(0), 4);
        x.straw(8, true);
        due("straw stops", x.roped(2), 6);
        x.straw(7, true);
        due("straw stops", x.roped(2), 6);
        x.straw(6, true);
        due("straw stops", x.roped(2), 8);
        x.straw(9, true);
        due("straw stops", x.roped(2), NONE);
        x.straw(14, true);
        due("straw in the middle", x.roped(20), NONE);
        x.straw(14, false);
        x.set(0, 0);
        due("low corn", x.roped(35), 6);
        due("low corn", x.roped(26), 2);
    }

    private static void p18Two() {
        PloughMaze x = with("00rrddll");
        due("kind", x.two(4, 0, 0, 0, 0), BAD);
        due("square", x.two(0, 36, 0, 0, 0), BAD);
        due("other", x.two(0, 0, -1, 0, 0), BAD);
        due("square2", x.two(0, 0, 0, 36, 0), BAD);
        due("side", x.two(0, 0, 0, 0, 4), BAD);
        due("first begins there", x.two(0, 14, 0, 0, 0), 0);
        due("second begins there", x.two(0, 0, 0, 14, 0), 0);
        due("first wins", x.two(BLIND, 0, WALL, 35, RIGHT), 7);
        due("second wins", x.two(BLIND, 35, WALL, 0, RIGHT), 8);
        due("first of like ones", x.two(CHALK, 0, CHALK, 0, RIGHT), 7);
        due("nearer one", x.two(CHALK, 0, CHALK, 13, RIGHT), 2);
        due("nobody", x.two(CHALK, 35, CHILD, 34, RIGHT), NONE);
        // In the crossing marks of the first would send the second on another way.
        PloughMaze cross = crossing();
        cross.set(1, 21);
        due("marks their own", cross.two(CHALK, 20, CHALK, 26, DOWN), 1);
        due("marks their own", cross.two(CHALK, 26, CHALK, 26, UP), 11);
        due("marks their own", cross.walk(CHALK, 26, UP), 6);
    }

    private static void p19Parts() {
        PloughMaze x = new PloughMaze();
        due("all alone", x.parts(), 36);
        x = with("00rrddll");
        due("one way", x.parts(), 30);
        x.set(0, 0);
        due("corn parts", x.parts(), 30);
        x.straw(8, true);
        due("straw or not", x.parts(), 30);
        x.deer(34, RIGHT);
        due("deer", x.parts(), 29);
        x.deer(12, UP);
        due("within", x.parts(), 28);
        x.deer(6, UP);
        due("a ring", x.parts(), 28);
        x.shut(8, UP, true);
        due("a ring cut", x.parts(), 28);
        x.shut(1, LEFT, true);
        due("cut twice", x.parts(), 29);
        due("all", with(SNAKE).parts(), 1);
    }

    private static void p20Shutting() {
        PloughMaze x = new PloughMaze();
        due("what", x.shutting(3), BAD);
        due("what", x.shutting(-1), BAD);
        due("no gap", x.shutting(0), NONE);
        furrow(x, "00rrdd");
        due("no way without", x.shutting(2), NONE);
        x.deer(0, DOWN);
        due("a blind end", x.shutting(0), 0);
        due("a blind end", x.shutting(1), DOWN);
        due("a blind end", x.shutting(2), 4);
        furrow(x, "00rrddllu");
        x.deer(1, DOWN);
        x.deer(7, DOWN);
        // Ring of eight with a way through its middle: 0 to 14 is 4 by each.
        due("like ones: the first", x.shutting(0), 0);
        due("like ones: right before down", x.shutting(1), RIGHT);
        due("like ones", x.shutting(2), 4);
        due("told only", x.count(4), 0);
        x.set(2, 8);
        due("most", x.shutting(0), 8);
        due("most", x.shutting(1), DOWN);
        due("most", x.shutting(2), 5);
        x.set(2, 14);
        due("the door is the middle", x.shutting(2), 0);
        due("the door is the middle", x.shutting(0), 0);
        x.set(2, 35);
        due("no way at all", x.shutting(0), NONE);
        x.set(0, 2);
        due("low corn", x.shutting(2), 6);
        due("low corn", x.shutting(0), 0);
    }

    private static void p21Days() {
        PloughMaze x = with("00rrddllu");
        due("n", x.days(0), BAD);
        due("n", x.days(21), BAD);
        due("n", x.days(-1), BAD);
        due("one", x.days(1), 1);
        due("shut", x.count(4), 1);
        due("which", x.told(0, 1), 1 << DOWN);
        due("far", x.far(0), 4);
        due("as long as there is one", x.days(20), 3);
        due("they stay shut", x.count(4), 4);
        due("they stay shut", x.count(2), 4);
        due("no more", x.days(20), 0);
        due("no gap", new PloughMaze().days(20), 0);
        PloughMaze full = with(SNAKE);
        due("twenty", full.days(20), 20);
        due("a few more", full.days(20), 35 - 14 - 20);
    }

    private static void p22Bell() {
        PloughMaze x = with("00rrddll");
        due("square", x.bell(36), BAD);
        due("square", x.bell(-1), BAD);
        due("middle", x.bell(14), 40);
        due("gap", x.bell(8), 35);
        due("gaps", x.bell(0), 20);
        due("corn", x.bell(15), 26);
        due("gaps and corn", x.bell(1), 25);
        due("the most", x.bell(7), 21);
        due("none", x.bell(35), 0);
        x.set(0, 0);
        due("no corn", x.bell(15), 35);
        due("far off", x.bell(35), 10);
        x.set(0, 1);
        due("low corn", x.bell(15), 34);
        due("the most by any way", x.bell(1), 25);
        x.straw(15, true);
        x.straw(8, true);
        due("straw men or not", x.bell(2), 30);
        due("straw men or not", x.bell(15), 34);
        x.shut(8, DOWN, true);
        due("shut is corn", x.bell(8), 34);
    }

    private static void p23Fit() {
        PloughMaze x = new PloughMaze();
        due("square", x.fit(36, 2, -1), BAD);
        due("square", x.fit(-1, 2, -1), BAD);
        due("many", x.fit(0, 1, -1), BAD);
        due("many", x.fit(0, 10, -1), BAD);
        due("k", x.fit(0, 2, -3), BAD);
        due("k", x.fit(0, 2, 2), BAD);
        due("two", x.fit(0, 2, -1), 2);
        due("two", x.fit(14, 2, -1), 4);
        due("three", x.fit(14, 3, -1), 12);
        due("nobody there", x.fit(0, 2, -2), NONE);
        due("nobody there", x.fit(0, 2, 1), NONE);
        due("from the middle", x.fit(14, 2, -2), 0);
        due("from the middle", x.fit(14, 2, 0), 14);
        due("from the middle", x.fit(14, 2, 1), 8);
        due("first of like ones", x.fit(0, 5, -2), 4);
        int[] first = {0, 1, 2, 8, 14};
        for (int k = 0; k < 5; k++) {
            due("square " + k, x.fit(0, 5, k), first[k]);
        }
        // A round one has a shorter way: by 13 14 8 7 the middle is but one step off.
        due("hardest", x.fit(13, 4, -2), 3 - 2);
        due("hardest", x.fit(13, 6, -2), 3);
        due("seen", seen(x, "22u+,00r-"), 2);
        due("fit", x.fit(14, 2, -1), 1);
        due("fit", x.fit(0, 2, -1), 0);
        due("fit", x.fit(0, 5, 1), 6);
        due("corn", x.fit(0, 5, 4), 14);
        // The closing gap of a round one is its own gap, too.
        seen(x, "22l+,22u+,12l+,11d+");
        due("round", x.fit(14, 4, -1), 2);
        seen(x, "22l-");
        due("not round", x.fit(14, 4, 3) == 13 ? 1 : 0, 0);
        seen(x, "22l-,22r-,22d-,12u-,12r-");
        due("not round", x.fit(14, 4, -1), 2);
        due("nine", new PloughMaze().fit(0, 9, -1), new PlainModel().fit(0, 9, -1));
        PloughMaze other = with("00rrdd");
        other.straw(1, true);
        other.shut(0, RIGHT, true);
        due("the field or not", other.fit(0, 5, 1), 1);
    }

    private static void p24to25Image() {
        PloughMaze x = with("00rrdd");
        due("none", x.restore(), NONE);
        x.deer(20, UP);
        x.shut(35, UP, true);
        x.straw(3, true);
        x.set(0, 5);
        x.set(1, 13);
        x.set(2, 7);
        seen(x, "00r+,11d-");
        x.sheet(1, 2, 4);
        x.type('4', 1);
        due("image", x.image(), 1);
        for (int time = 0; time < 2; time++) {
            x.furrow();
            furrow(x, "55uuuu");
            x.deer(0, DOWN);
            x.shut(35, UP, false);
            x.shut(30, UP, true);
            x.straw(3, false);
            x.straw(4, true);
            x.set(0, 9);
            x.set(1, 0);
            x.set(2, 0);
            seen(x, "44r+");
            x.sheet(1, 1, 6);
            x.type('3', 1);
            due("restore", x.restore(), 1);
            due("furrow", x.count(0), 5);
            due("furrow", x.told(8, 0), 3);
            due("gaps", x.count(2), 5);
            due("eaten", x.count(3), 1);
            due("shut", x.shut(35, UP, true), 1);
            due("shut", x.count(4), 1);
            due("straw", x.told(3, 2), 1);
            due("straw", x.count(5), 1);
            due("months", x.set(0, 5), 5);
            due("middle", x.set(1, 13), 13);
            due("door", x.set(2, 7), 7);
            due("seen", x.count(6), 2);
            due("seen", x.fit(0, 3, -1), 2);
            due("seen corn", x.fit(13, 4, -1), 0);
            due("the last one", x.plough(15), 6);
            due("the last one", x.back(1), 5);
            due("ploughed", x.plough(8), NOT);
            due("the tape goes on", x.type('3', 1), 2);
            due("the tape goes on", x.furrow(), 1);
            due("the tape goes on", x.told(21, 0), 0);
            due("sheets stay", x.drop(1), 6);
        }
        x.image();
        furrow(x, "00");
        x.restore();
        due("the later image", x.told(21, 0), 0);
    }

    private static void p26Go() {
        PloughMaze x = with("55");
        due("sheet", x.go(4, 0, 0, 1), BAD);
        due("sheet", x.go(-1, 0, 0, 1), BAD);
        due("lane", x.go(0, 3, 0, 1), BAD);
        due("lane", x.go(0, -1, 0, 1), BAD);
        due("n", x.go(0, 0, 0, 0), BAD);
        due("n", x.go(0, 0, 0, 37), BAD);
        due("null", x.go(0, 0, 0, 1), NULL);
        x.sheet(0, 0, 5);
        due("cast", x.go(0, 1, 0, 1), CAST);
        due("cast before index", x.go(0, 2, -1, 36), CAST);
        due("index", x.go(0, 0, -1, 1), INDEX);
        due("index", x.go(0, 0, 5, 1), INDEX);
        due("index", x.go(0, 0, 0, 6), INDEX);
        due("index", x.go(0, 0, MOST, 36), INDEX);
        due("index", x.go(0, 0, LEAST, 36), INDEX);
        due("twice", x.go(0, 0, 0, 5), NOT);
        due("index before not", x.go(0, 0, 1, 5), INDEX);
        due("stays", x.told(35, 0), 0);
        int[] row = {13, 14, 8, 7, 6};
        for (int i = 0; i < 5; i++) {
            x.item(0, 0, i, row[i]);
        }
        due("go", x.go(0, 0, 0, 4), 4);
        due("round", x.count(1), 1);
        due("place", x.told(14, 0), 1);
        due("from one on", x.go(0, 0, 3, 2), 2);
        due("place", x.told(7, 0), 0);
        due("in place of it", x.count(2), 1);
        x.item(0, 0, 4, 36);
        due("no square", x.go(0, 0, 3, 2), NOT);
        x.item(0, 0, 4, -1);
        due("no square", x.go(0, 0, 4, 1), NOT);
        x.item(0, 0, 4, 20);
        due("not next", x.go(0, 0, 3, 2), NOT);
        due("stays", x.count(0), 2);
        due("stays", x.told(6, 0), 1);
        x.sheet(1, 2, 36);
        for (int i = 0; i < 36; i++) {
            x.item(1, 2, i, i / 6 % 2 == 0 ? i : i / 6 * 12 + 5 - i);
        }
        due("all", x.go(1, 2, 0, 36), 36);
        due("all", x.count(2), 35);
    }

    private static void p27Sheet() {
        PloughMaze x = new PloughMaze();
        due("sheet", x.sheet(4, 0, 1), BAD);
        due("sheet", x.sheet(-1, 0, 1), BAD);
        due("lane", x.sheet(0, 3, 1), BAD);
        due("lane", x.sheet(0, -1, 1), BAD);
        due("above 36", x.sheet(0, 0, 37), BAD);
        due("above 36", x.sheet(0, 0, MOST), BAD);
        due("bad before size", x.sheet(0, 3, -1), BAD);
        due("size", x.sheet(0, 0, -1), SIZE);
        due("size", x.sheet(0, 0, LEAST), SIZE);
        due("nothing", x.drop(0), NULL);
        due("none", x.sheet(0, 0, 0), 0);
        due("none", x.item(0, 0, 0, 1), INDEX);
        due("all", x.sheet(3, 2, 36), 36);
        x.item(3, 2, 0, 5);
        due("size", x.sheet(3, 1, -1), SIZE);
        due("stays", x.go(3, 2, 0, 1), 1);
        due("stays", x.told(5, 0), 0);
        due("new", x.sheet(3, 2, 1), 1);
        due("noughts", x.go(3, 2, 0, 1), 1);
        due("noughts", x.told(0, 0), 0);
        due("another lane", x.sheet(3, 1, 2), 2);
        due("another lane", x.item(3, 2, 0, 0), CAST);
    }

    private static void p28Drop() {
        PloughMaze x = new PloughMaze();
        due("sheet", x.drop(-1), BAD);
        due("sheet", x.drop(4), BAD);
        due("null", x.drop(2), NULL);
        x.sheet(2, 0, 7);
        x.sheet(3, 0, 0);
        due("drop", x.drop(2), 7);
        due("null", x.drop(2), NULL);
        due("null", x.item(2, 0, 0, 0), NULL);
        due("none", x.drop(3), 0);
        due("null", x.drop(3), NULL);
    }

    private static void p29Item() {
        PloughMaze x = new PloughMaze();
        due("sheet", x.item(4, 0, 0, 0), BAD);
        due("sheet", x.item(-1, 0, 0, 0), BAD);
        due("lane", x.item(0, 3, 0, 0), BAD);
        due("lane", x.item(0, -1, 0, 0), BAD);
        due("null", x.item(0, 0, 0, 0), NULL);
        due("null before index", x.item(0, 0, -1, 0), NULL);
        for (int lane = 0; lane < 3; lane++) {
            x.sheet(lane, lane, 2);
            due("cast", x.item(lane, (lane + 1) % 3, 0, 0), CAST);
            due("cast before index", x.item(lane, (lane + 1) % 3, 9, 0), CAST);
            due("index", x.item(lane, lane, -1, 0), INDEX);
            due("index", x.item(lane, lane, 2, 0), INDEX);
            due("index", x.item(lane, lane, MOST, 0), INDEX);
            due("index", x.item(lane, lane, LEAST, 0), INDEX);
            due("item", x.item(lane, lane, 1, 256 + 7), 1);
            due("lowest bits", x.go(lane, lane, 1, 1), lane == 0 ? 1 : NOT);
            due("item", x.item(lane, lane, 1, 65536 + 7), 1);
            due("lowest bits", x.go(lane, lane, 1, 1), lane < 2 ? 1 : NOT);
            due("item", x.item(lane, lane, 1, 7), 1);
            due("item", x.go(lane, lane, 1, 1), 1);
            due("the other", x.go(lane, lane, 0, 1), 1);
        }
    }

    private static void p30Film() {
        PloughMaze x = with("00rrddll");
        due("sheet", x.film(4, 0, 0), BAD);
        due("sheet", x.film(-1, 0, 0), BAD);
        due("lane", x.film(0, 3, 0), BAD);
        due("null", x.film(0, 0, 0), NULL);
        x.sheet(0, 0, 35);
        due("index", x.film(0, 0, 0), INDEX);
        due("cast", x.film(0, 1, 0), CAST);
        x.sheet(0, 0, 36);
        due("index", x.film(0, 0, 1), INDEX);
        due("index", x.film(0, 0, -1), INDEX);
        due("index", x.film(0, 0, MOST), INDEX);
        due("nothing yet", x.go(0, 0, 7, 1), 1);
        x = with("00rrddll");
        for (int lane = 0; lane < 3; lane++) {
            x.sheet(lane, lane, 36);
            due("film", x.film(lane, lane, 0), 36);
        }
        x.image();
        // The items: 4 of 0, 3 of 1, 2 of 2, none of 3.
        for (int lane = 0; lane < 3; lane++) {
            due("a row of far", x.go(lane, lane, 0, 3), 3);
            due("far of 0", x.told(4, 0), 0);
            due("far of 1", x.told(3, 0), 1);
            due("far of 2", x.told(2, 0), 2);
            due("none is no square", x.go(lane, lane, 3, 1), NOT);
            due("far of 14", x.go(lane, lane, 14, 1), 1);
            due("far of 14", x.told(0, 0), 0);
            x.restore();
        }
        // All is open to a child, but far is of one who is none.
        x = with("21r");
        x.set(0, 3);
        x.straw(1, true);
        x.sheet(0, 2, 36);
        due("film", x.film(0, 2, 0), 36);
        due("no way for a child alone", x.go(0, 2, 1, 1), NOT);
        due("of 13", x.go(0, 2, 13, 1), 1);
        due("of 13", x.told(1, 0), 0);
        x.set(0, 2);
        x.film(0, 2, 0);
        due("low corn, of 8", x.go(0, 2, 8, 1), 1);
        due("low corn, of 8", x.told(1, 0), 0);
        due("low corn, of 35", x.go(0, 2, 35, 1), 1);
        due("low corn, of 35", x.told(6, 0), 0);
    }

    private static void constants() {
        due("BAD", PloughMaze.BAD, BAD);
        due("NOT", PloughMaze.NOT, NOT);
        due("FULL", PloughMaze.FULL, FULL);
        due("NONE", PloughMaze.NONE, NONE);
        due("NULL", PloughMaze.NULL, NULL);
        due("CAST", PloughMaze.CAST, CAST);
        due("INDEX", PloughMaze.INDEX, INDEX);
        due("SIZE", PloughMaze.SIZE, SIZE);
    }

    private static void test(int number) {
        promise = "promise " + number;
        switch (number) {
            case 1: p1NewObject(); break;
            case 2: p2Plough(); break;
            case 3: p3Back(); break;
            case 4: p4Deer(); break;
            case 5: p5Shut(); break;
            case 6: p6Straw(); break;
            case 7: p7Set(); break;
            case 8: p8Told(); break;
            case 9: p9Type(); break;
            case 10: p10Furrow(); break;
            case 11: p11Seen(); break;
            case 12: p12Count(); break;
            case 13: p13Walk(); break;
            case 14: p14At(); break;
            case 15: p15Worst(); break;
            case 16: p16Far(); break;
            case 17: p17Roped(); break;
            case 18: p18Two(); break;
            case 19: p19Parts(); break;
            case 20: p20Shutting(); break;
            case 21: p21Days(); break;
            case 22: p22Bell(); break;
            case 23: p23Fit(); break;
            case 24: case 25: p24to25Image(); break;
            case 26: p26Go(); break;
            case 27: p27Sheet(); break;
            case 28: p28Drop(); break;
            case 29: p29Item(); break;
            case 30: p30Film(); break;
            default: promise = "the constants"; constants();
        }
    }

    public static void main(String[] args) {
        for (int number = 1; number <= 31; number++) {
            test(number);
        }
        System.out.println("PromisesTest: " + passed + " passed, " + failed + " failed");
        if (failed > 0) {
            System.exit(1);
        }
    }
}
