/** The edges that the document names under ==== 1 and promises 1 to 12, each sentence with a test of its own. */
public final class FieldSentencesTest extends Sentences {

    private static void newObject() {
        sentence("1: a field of corn: nothing is ploughed, no gap, no straw man", () -> {
            PloughMaze x = new PloughMaze();
            for (int square = 0; square < 36; square++) {
                due("place of " + square, x.told(square, 0), NONE);
                due("gaps of " + square, x.told(square, 1), 0);
                due("straw man on " + square, x.told(square, 2), 0);
            }
        });
        sentence("1: every count is 0 at first", () -> {
            PloughMaze x = new PloughMaze();
            for (int what = 0; what <= 6; what++) {
                due("count " + what, x.count(what), 0);
            }
        });
        sentence("1: MONTHS are 9 at first", () -> due("set", new PloughMaze().set(0, 0), 9));
        sentence("1: the MIDDLE is 14 at first", () -> due("set", new PloughMaze().set(1, 0), 14));
        sentence("1: the DOOR is 0 at first", () -> due("set", new PloughMaze().set(2, 35), 0));
        sentence("1: THE TAPE is empty at first", () -> {
            due("type", new PloughMaze().type('0', 1), 1);
            due("furrow", new PloughMaze().furrow(), -20);
            due("seen", new PloughMaze().seen(), -20);
        });
        sentence("1: nothing was SEEN at first", () -> due("fit", new PloughMaze().fit(14, 2, -1), 4));
        sentence("1: there is no IMAGE at first", () -> due("restore", new PloughMaze().restore(), NONE));
        sentence("1: the SHEETS hold nothing at first", () -> {
            for (int sheet = 0; sheet < 4; sheet++) {
                due("drop " + sheet, new PloughMaze().drop(sheet), NULL);
            }
        });
        sentence("1: a second object has a field of its own", () -> {
            PloughMaze x = ploughed("22r");
            x.straw(0, true);
            x.type('0', 1);
            x.sheet(0, 0, 1);
            x.image();
            PloughMaze y = new PloughMaze();
            due("count", y.count(0), 0);
            due("told", y.told(0, 2), 0);
            due("type", y.type('0', 1), 1);
            due("drop", y.drop(0), NULL);
            due("restore", y.restore(), NONE);
        });
    }

    private static void squaresAndSides() {
        sentence("1 THE FIELD: NEXT is the SQUARE at a SIDE, none beyond the edge", () -> {
            for (int square = 0; square < 36; square++) {
                for (int side = 0; side < 4; side++) {
                    PloughMaze x = new PloughMaze();
                    int to = next(square, side);
                    due("deer " + square + " " + side, x.deer(square, side), to < 0 ? NOT : 1);
                    due("told " + square, x.told(square, 1), to < 0 ? 0 : 1 << side);
                    if (to >= 0) {
                        due("told " + to, x.told(to, 1), 1 << 3 - side);
                    }
                }
            }
        });
        sentence("1 THE FIELD: a ROW's last SQUARE is not NEXT to the first of the one below", () -> {
            for (int last = 5; last < 35; last += 6) {
                PloughMaze x = new PloughMaze();
                x.plough(last);
                due("plough behind " + last, x.plough(last + 1), NOT);
                PloughMaze y = new PloughMaze();
                y.plough(last + 1);
                due("plough behind " + (last + 1), y.plough(last), NOT);
            }
        });
        sentence("1 THE FIELD: 60 pairs are NEXT, each a gap of its own", () -> {
            PloughMaze x = new PloughMaze();
            int shut = 0;
            for (int square = 0; square < 36; square++) {
                for (int side = RIGHT; side <= DOWN; side++) {
                    if (next(square, side) >= 0) {
                        due("shut " + square + " " + side, x.shut(square, side, true), 0);
                        shut++;
                        due("count", x.count(4), shut);
                    }
                }
            }
            due("all", x.count(4), 60);
        });
    }

    private static void plough() {
        range("2 plough: the SQUARE", 0, 35, PloughMaze::new, (x, v) -> x.plough(v));
        sentence("2 plough: none at first: any SQUARE can be the first", () -> {
            for (int square = 0; square < 36; square++) {
                due("plough " + square, new PloughMaze().plough(square), 1);
            }
        });
        sentence("2 plough: only one that is NEXT to the last one", () -> {
            for (int last = 0; last < 36; last++) {
                for (int to = 0; to < 36; to++) {
                    PloughMaze x = new PloughMaze();
                    x.plough(last);
                    int apart = Math.abs(last / 6 - to / 6) + Math.abs(last % 6 - to % 6);
                    due("plough " + to + " behind " + last, x.plough(to), apart == 1 ? 2 : NOT);
                }
            }
        });
        sentence("2 plough: NEXT to the last one, not to one before or to the first", () -> {
            PloughMaze x = ploughed("22rr");
            due("next to the first", x.plough(13), NOT);
            due("next to the second", x.plough(9), NOT);
            due("next to the last", x.plough(10), 4);
        });
        sentence("2 plough: NOT one that is ploughed", () -> {
            PloughMaze x = ploughed("11rdl");
            due("the first, next to the last", x.plough(7), NOT);
            due("the last", x.plough(13), NOT);
            due("the one before", x.plough(14), NOT);
            due("stays", x.count(0), 4);
        });
        sentence("2 plough: all 36, and then none", () -> {
            PloughMaze x = new PloughMaze();
            for (int i = 0; i < 36; i++) {
                int square = i / 6 % 2 == 0 ? i : i / 6 * 12 + 5 - i;
                due("plough " + square, x.plough(square), i + 1);
            }
            for (int square = 0; square < 36; square++) {
                due("plough " + square, x.plough(square), NOT);
            }
            due("bad all the same", x.plough(36), BAD);
        });
        sentence("2 plough: one that is closed in goes nowhere", () -> {
            PloughMaze x = ploughed("01ld");
            due("12", x.plough(12), 4);
            PloughMaze y = ploughed("10rul");
            for (int square = 0; square < 36; square++) {
                due("plough " + square, y.plough(square), NOT);
            }
        });
        sentence("2 plough: DEER, what is SHUT and STRAW MEN do not stop the plough", () -> {
            PloughMaze x = ploughed("00");
            x.deer(0, RIGHT);
            x.shut(0, RIGHT, true);
            x.straw(1, true);
            due("plough", x.plough(1), 2);
        });
    }

    private static void round() {
        sentence("1 THE FURROW: ROUND has 4 or more: not with none, 1, 2 or 3", () -> {
            PloughMaze x = new PloughMaze();
            due("none", x.count(1), 0);
            int[] row = {14, 15, 21};
            for (int i = 0; i < 3; i++) {
                x.plough(row[i]);
                due(i + 1 + " squares", x.count(1), 0);
                due(i + 1 + " squares", x.count(2), i);
            }
        });
        sentence("1 THE FURROW: with 2, whose last is NEXT to its first, there is one GAP", () -> {
            PloughMaze x = ploughed("22r");
            due("gaps", x.count(2), 1);
            due("told", x.told(14, 1), 1 << RIGHT);
            due("told", x.told(15, 1), 1 << LEFT);
        });
        sentence("1 THE FURROW: ROUND with 4, and a GAP is there, too", () -> {
            PloughMaze x = ploughed("22rdl");
            due("round", x.count(1), 1);
            due("gaps", x.count(2), 4);
            due("the first", x.told(14, 1), 1 << RIGHT | 1 << DOWN);
            due("the last", x.told(20, 1), 1 << UP | 1 << RIGHT);
        });
        sentence("1 THE FURROW: 4 whose last is not NEXT to its first are not ROUND", () -> {
            due("in a row", ploughed("22rrr").count(1), 0);
            due("a hook", ploughed("22rrd").count(1), 0);
            due("steps", ploughed("22rdr").count(1), 0);
            due("gaps", ploughed("22rrd").count(2), 3);
        });
        sentence("1 THE FURROW: beyond the edge nothing is ROUND", () -> {
            PloughMaze x = ploughed("05dlllll");
            due("6 and 5", x.count(1), 0);
            due("gaps", x.count(2), 6);
        });
        sentence("1 THE FURROW: ROUND with all 36", () -> {
            PloughMaze x = new PloughMaze();
            due("furrow", furrow(x, ROUND_SNAKE), 36);
            due("round", x.count(1), 1);
            due("gaps", x.count(2), 36);
        });
        sentence("1 THE FURROW: it is ROUND no more when it goes on, and again when that is taken back", () -> {
            PloughMaze x = ploughed("22rdl");
            x.plough(26);
            due("goes on", x.count(1), 0);
            due("goes on", x.count(2), 4);
            due("goes on", x.told(14, 1), 1 << RIGHT);
            x.back(1);
            due("back", x.count(1), 1);
            due("back", x.count(2), 4);
        });
        sentence("1 THE FURROW: ROUND, though its last GAP is SHUT", () -> {
            PloughMaze x = ploughed("22rdl");
            x.shut(14, DOWN, true);
            due("round", x.count(1), 1);
            due("gaps", x.count(2), 3);
        });
    }

    private static void back() {
        range("3 back: n", 1, 36, () -> ploughed(SNAKE), (x, v) -> x.back(v));
        sentence("3 back: NOT, if it has not so many", () -> {
            due("1 of none", new PloughMaze().back(1), NOT);
            due("36 of none", new PloughMaze().back(36), NOT);
            due("2 of 1", ploughed("22").back(2), NOT);
            due("6 of 5", ploughed("22rrrd").back(6), NOT);
            due("36 of 35", ploughed(SNAKE.substring(0, 36)).back(36), NOT);
        });
        sentence("3 back: all of them: THE FURROW is empty", () -> {
            PloughMaze x = ploughed(SNAKE);
            due("36 of 36", x.back(36), 0);
            due("gaps", x.count(2), 0);
            due("place", x.told(0, 0), NONE);
            due("1 of none", x.back(1), NOT);
            due("anywhere again", x.plough(21), 1);
        });
        sentence("3 back: the last n are corn again, those before are not", () -> {
            PloughMaze x = ploughed("22rrdl");
            due("back", x.back(2), 3);
            due("taken back", x.told(21, 0), NONE);
            due("taken back", x.told(22, 0), NONE);
            due("the last now", x.told(16, 0), 2);
            due("its gaps", x.told(16, 1), 1 << LEFT);
            due("gaps", x.count(2), 2);
            due("ploughed anew", x.plough(22), 4);
        });
        sentence("3 back: what DEER ate there stays a GAP", () -> {
            PloughMaze x = ploughed("22r");
            x.deer(14, RIGHT);
            due("back", x.back(1), 1);
            due("gap", x.told(14, 1), 1 << RIGHT);
        });
        sentence("3 back: BAD, however few it has", () -> {
            due("37 of none", new PloughMaze().back(37), BAD);
            due("0 of none", new PloughMaze().back(0), BAD);
        });
    }

    private static void deer() {
        range("4 deer: the SQUARE", 0, 35, PloughMaze::new, (x, v) -> x.deer(v, UP));
        range("4 deer: the SIDE", 0, 3, PloughMaze::new, (x, v) -> x.deer(14, v));
        sentence("4 deer: NOT, if no SQUARE is there", () -> {
            for (int i = 0; i < 6; i++) {
                due("above " + i, new PloughMaze().deer(i, UP), NOT);
                due("left of " + 6 * i, new PloughMaze().deer(6 * i, LEFT), NOT);
                due("right of " + (6 * i + 5), new PloughMaze().deer(6 * i + 5, RIGHT), NOT);
                due("below " + (30 + i), new PloughMaze().deer(30 + i, DOWN), NOT);
            }
        });
        sentence("4 deer: NOT, if they ate there, from this SQUARE or from the other", () -> {
            PloughMaze x = new PloughMaze();
            due("first", x.deer(14, RIGHT), 1);
            due("the same", x.deer(14, RIGHT), NOT);
            due("from the other", x.deer(15, LEFT), NOT);
            due("one", x.count(3), 1);
        });
        sentence("4 deer: 10 at most", () -> {
            PloughMaze x = new PloughMaze();
            for (int i = 0; i < 10; i++) {
                due("deer " + i, x.deer(i, DOWN), i + 1);
            }
            due("the eleventh", x.deer(10, DOWN), FULL);
            due("eaten", x.count(3), 10);
            due("no gap there", x.told(16, 1), 0);
        });
        sentence("4 deer: where a GAP of THE FURROW is they eat, too", () -> {
            PloughMaze x = ploughed("22r");
            due("deer", x.deer(14, RIGHT), 1);
            due("still one gap", x.count(2), 1);
        });
        sentence("4 deer: at the last GAP of a ROUND one they eat, too", () -> {
            PloughMaze x = ploughed("22rdl");
            due("deer", x.deer(14, DOWN), 1);
            due("still four gaps", x.count(2), 4);
            due("told", x.told(14, 1), 1 << RIGHT | 1 << DOWN);
            x.back(1);
            due("two of the furrow, one eaten", x.count(2), 3);
        });
        sentence("4 deer: where it is SHUT they eat, but corn stays until it is open", () -> {
            PloughMaze x = new PloughMaze();
            x.shut(14, RIGHT, true);
            due("deer", x.deer(15, LEFT), 1);
            due("corn", x.count(2), 0);
            x.shut(14, RIGHT, false);
            due("gap", x.count(2), 1);
        });
        sentence("4 deer: SHUT or not, what they ate counts for the 10", () -> {
            PloughMaze x = new PloughMaze();
            for (int i = 0; i < 10; i++) {
                x.deer(i, DOWN);
                x.shut(i, DOWN, true);
            }
            due("full", x.deer(10, DOWN), FULL);
            due("no gap", x.count(2), 0);
        });
    }

    private static void shut() {
        range("5 shut: the SQUARE", 0, 35, PloughMaze::new, (x, v) -> x.shut(v, DOWN, true));
        range("5 shut: the SIDE", 0, 3, PloughMaze::new, (x, v) -> x.shut(14, v, false));
        sentence("5 shut: NOT, if no SQUARE is there, to shut or to open", () -> {
            for (int i = 0; i < 6; i++) {
                boolean is = i % 2 == 0;
                due("above " + i, new PloughMaze().shut(i, UP, is), NOT);
                due("left of " + 6 * i, new PloughMaze().shut(6 * i, LEFT, !is), NOT);
                due("right of " + (6 * i + 5), new PloughMaze().shut(6 * i + 5, RIGHT, is), NOT);
                due("below " + (30 + i), new PloughMaze().shut(30 + i, DOWN, !is), NOT);
            }
        });
        sentence("5 shut: whether it was, from this SQUARE or from the other", () -> {
            PloughMaze x = new PloughMaze();
            due("was not", x.shut(14, DOWN, true), 0);
            due("was, and stays", x.shut(20, UP, true), 1);
            due("one", x.count(4), 1);
            due("was, and is open", x.shut(20, UP, false), 1);
            due("was not, and stays open", x.shut(14, DOWN, false), 0);
            due("none", x.count(4), 0);
        });
        sentence("5 shut: where corn is it can be SHUT, and no GAP is there when it is open again", () -> {
            PloughMaze x = new PloughMaze();
            due("shut", x.shut(0, RIGHT, true), 0);
            due("count", x.count(4), 1);
            due("open", x.shut(0, RIGHT, false), 1);
            due("corn", x.told(0, 1), 0);
        });
        sentence("5 shut: what is SHUT is corn, a step of THE FURROW, its last GAP or eaten by DEER", () -> {
            PloughMaze x = ploughed("22rdl");
            x.deer(14, UP);
            x.deer(14, RIGHT);
            x.shut(14, UP, true);
            due("eaten", x.told(14, 1), 1 << RIGHT | 1 << DOWN);
            x.shut(14, RIGHT, true);
            due("a step, and eaten", x.told(14, 1), 1 << DOWN);
            x.shut(14, DOWN, true);
            due("the last gap", x.told(14, 1), 0);
            x.shut(14, UP, false);
            x.shut(14, RIGHT, false);
            x.shut(14, DOWN, false);
            due("open again", x.told(14, 1), 1 << UP | 1 << RIGHT | 1 << DOWN);
        });
        sentence("5 shut: what was SHUT before it was ploughed is corn, too", () -> {
            PloughMaze x = new PloughMaze();
            x.shut(14, RIGHT, true);
            due("furrow", furrow(x, "22r"), 2);
            due("corn", x.count(2), 0);
        });
    }

    private static void straw() {
        range("6 straw: the SQUARE", 0, 35, PloughMaze::new, (x, v) -> x.straw(v, true));
        sentence("6 straw: whether one was there", () -> {
            PloughMaze x = new PloughMaze();
            due("was not, and is not", x.straw(0, false), 0);
            due("was not", x.straw(0, true), 0);
            due("was, and stays", x.straw(0, true), 1);
            due("was", x.straw(0, false), 1);
            due("was not", x.straw(0, false), 0);
        });
        sentence("6 straw: on each SQUARE one of its own, 36 at most", () -> {
            PloughMaze x = new PloughMaze();
            for (int square = 0; square < 36; square++) {
                due("straw " + square, x.straw(square, true), 0);
                due("count", x.count(5), square + 1);
                due("told", x.told(square, 2), 1);
            }
            due("the first one stays", x.straw(0, true), 1);
        });
    }

    private static void set() {
        range("7 set: MONTHS", 0, 9, PloughMaze::new, (x, v) -> x.set(0, v));
        range("7 set: the MIDDLE", 0, 35, PloughMaze::new, (x, v) -> x.set(1, v));
        range("7 set: the DOOR", 0, 35, PloughMaze::new, (x, v) -> x.set(2, v));
        range("7 set: what", 0, 2, PloughMaze::new, (x, v) -> x.set(v, 0));
        sentence("7 set: what it was", () -> {
            PloughMaze x = new PloughMaze();
            int[] first = {9, 14, 0};
            for (int what = 0; what < 3; what++) {
                due("at first", x.set(what, 5), first[what]);
                due("again", x.set(what, 0), 5);
                due("the least", x.set(what, what == 0 ? 9 : 35), 0);
                due("the greatest", x.set(what, 7), what == 0 ? 9 : 35);
            }
            due("each its own", x.set(0, 1), 7);
        });
        sentence("7 set: the DOOR is another one, or the same as the MIDDLE", () -> {
            PloughMaze x = new PloughMaze();
            due("door", x.set(2, 14), 0);
            due("middle", x.set(1, 14), 14);
            due("door", x.set(2, 14), 14);
        });
    }

    private static void told() {
        range("8 told: the SQUARE", 0, 35, PloughMaze::new, (x, v) -> x.told(v, 0));
        range("8 told: what", 0, 2, PloughMaze::new, (x, v) -> x.told(0, v));
        sentence("8 told: its place in THE FURROW, from 0 to 35", () -> {
            PloughMaze x = ploughed(SNAKE);
            due("the first", x.told(0, 0), 0);
            due("the last", x.told(30, 0), 35);
            due("the sixth", x.told(11, 0), 6);
        });
        sentence("8 told: NONE, if it is not in THE FURROW", () -> {
            PloughMaze x = ploughed("22");
            x.deer(13, RIGHT);
            due("in it", x.told(14, 0), 0);
            due("eaten, not ploughed", x.told(13, 0), NONE);
        });
        sentence("8 told: SIDES are a set: 1 up, 2 left, 4 right, 8 down", () -> {
            for (int sides = 0; sides < 16; sides++) {
                due("told", crossing(14, sides).told(14, 1), sides);
            }
        });
    }

    private static void type() {
        range("9 type: n", 1, 8, PloughMaze::new, (x, v) -> x.type(0x2020202020202020L, v));
        sentence("9 type: a byte is 32 .. 126", () -> {
            for (int letter = 0; letter < 256; letter++) {
                due("byte " + letter, new PloughMaze().type(letter, 1), letter >= 32 && letter <= 126 ? 1 : BAD);
            }
        });
        sentence("9 type: each of the n bytes is looked at, the first one and the last one, too", () -> {
            for (int i = 0; i < 8; i++) {
                long w = 0x4141414141414141L;
                long hole = ~(0xFFL << 8 * i);
                due("31 at " + i, new PloughMaze().type(w & hole | 31L << 8 * i, 8), BAD);
                due("32 at " + i, new PloughMaze().type(w & hole | 32L << 8 * i, 8), 8);
                due("126 at " + i, new PloughMaze().type(w & hole | 126L << 8 * i, 8), 8);
                due("127 at " + i, new PloughMaze().type(w & hole | 127L << 8 * i, 8), BAD);
                due("255 at " + i, new PloughMaze().type(w & hole | 255L << 8 * i, 8), BAD);
            }
        });
        sentence("9 type: bytes above the n lowest are free", () -> {
            due("one", new PloughMaze().type(0xFFFFFFFFFFFFFF41L, 1), 1);
            due("seven", new PloughMaze().type(0x0041414141414141L, 7), 7);
            due("of the least long", new PloughMaze().type(Long.MIN_VALUE | 0x41414141414141L, 7), 7);
            due("eight of it", new PloughMaze().type(Long.MIN_VALUE | 0x41414141414141L, 8), BAD);
        });
        sentence("9 type: of these the highest first", () -> {
            PloughMaze x = new PloughMaze();
            x.type((long) '1' << 32 | '2' << 24 | 'r' << 16 | 'd' << 8 | 'l', 5);
            due("furrow", x.furrow(), 4);
            due("first", x.told(8, 0), 0);
            due("last", x.told(14, 0), 3);
        });
        sentence("9 type: they come behind THE TAPE", () -> {
            PloughMaze x = new PloughMaze();
            x.type('1' << 8 | '2', 2);
            x.type('r', 1);
            due("type", x.type('d', 1), 4);
            due("furrow", x.furrow(), 3);
            due("last", x.told(15, 0), 2);
        });
        sentence("9 type: 80 on THE TAPE, and no more", () -> {
            PloughMaze x = new PloughMaze();
            for (int i = 1; i <= 10; i++) {
                due("type", x.type(0x2020202020202020L, 8), 8 * i);
            }
            due("one more", x.type(32, 1), FULL);
            due("eight more", x.type(0x2020202020202020L, 8), FULL);
            due("all are there", x.furrow(), -100);
        });
        sentence("9 type: 80 by single bytes", () -> {
            PloughMaze x = new PloughMaze();
            for (int i = 1; i <= 80; i++) {
                due("type", x.type(126, 1), i);
            }
            due("one more", x.type(126, 1), FULL);
        });
        sentence("9 type: FULL, if not all n of them have a place; none of them comes then", () -> {
            PloughMaze x = new PloughMaze();
            type(x, " ".repeat(73));
            due("eight behind 73", x.type(0x3030303030303030L, 8), FULL);
            due("seven behind 73", x.type(0x20202020202020L, 7), 80);
            due("blanks alone", x.furrow(), -100);
        });
    }

    private static void furrowFaults() {
        sentence("10 furrow: an empty TAPE: the end is its fault", () -> due("furrow", new PloughMaze().furrow(), -20));
        sentence("10 furrow: a digit is 0 .. 5, of ROW and COLUMN", () -> {
            for (int digit = 0; digit <= 9; digit++) {
                due("row " + digit, furrow(new PloughMaze(), digit + "0"), digit <= 5 ? 1 : -20);
                due("column " + digit, furrow(new PloughMaze(), "0" + digit), digit <= 5 ? 1 : -21);
            }
            due("ahead of 0", furrow(new PloughMaze(), "/0"), -20);
            due("ahead of 0", furrow(new PloughMaze(), "0/"), -21);
        });
        sentence("10 furrow: two digits: the end behind one is its fault", () -> {
            due("one", furrow(new PloughMaze(), "3"), -21);
            due("a step behind one", furrow(new PloughMaze(), "3u"), -21);
        });
        sentence("10 furrow: perhaps no step", () -> {
            PloughMaze x = new PloughMaze();
            due("first", furrow(x, "00"), 1);
            due("last", furrow(x, "55"), 1);
            due("place", x.told(35, 0), 0);
        });
        sentence("10 furrow: steps are u l r d alone", () -> {
            for (char letter = 33; letter < 127; letter++) {
                boolean isStep = "ulrd".indexOf(letter) >= 0;
                due("22" + letter, furrow(new PloughMaze(), "22" + letter), isStep ? 2 : -22);
            }
        });
        sentence("10 furrow: u is up, l left, r right, d down", () -> {
            int[] to = {8, 13, 15, 20};
            for (int side = 0; side < 4; side++) {
                due("second", ploughed("22" + "ulrd".charAt(side)).told(to[side], 0), 1);
            }
        });
        sentence("10 furrow: a step beyond the edge is the fault", () -> {
            due("up", furrow(new PloughMaze(), "10uu"), -23);
            due("left", furrow(new PloughMaze(), "01ll"), -23);
            due("right", furrow(new PloughMaze(), "04rr"), -23);
            due("down", furrow(new PloughMaze(), "40dd"), -23);
        });
        sentence("10 furrow: a step to a SQUARE ploughed is the fault", () -> {
            due("back", furrow(new PloughMaze(), "00rl"), -23);
            due("round", furrow(new PloughMaze(), "00rdlu"), -25);
        });
        sentence("10 furrow: the first fault is told, not a later one", () -> {
            due("edge, then digit", furrow(new PloughMaze(), "00u9"), -22);
            due("digit, then letter", furrow(new PloughMaze(), "99x"), -20);
        });
        sentence("10 furrow: all 36 SQUARES, and a step more is the fault", () -> {
            due("all", furrow(new PloughMaze(), SNAKE), 36);
            due("one more", furrow(new PloughMaze(), SNAKE + "u"), -57);
        });
        sentence("10 furrow: 80 bytes on THE TAPE are read to the last", () -> {
            due("blanks at the end", furrow(new PloughMaze(), SNAKE + " ".repeat(43)), 36);
            due("blanks ahead", furrow(new PloughMaze(), " ".repeat(43) + SNAKE), 36);
            due("the last byte is the fault", furrow(new PloughMaze(), "00r" + " ".repeat(76) + "l"), -99);
        });
    }

    private static void furrowBlanks() {
        sentence("10 furrow: blanks do not count as faults, wherever they are", () -> {
            due("blanks", furrow(new PloughMaze(), "  2  2  u  "), 2);
        });
        sentence("10 furrow: the end's place is how many bytes there are, blanks too", () -> {
            for (int n = 1; n <= 80; n++) {
                due(n + " blanks", furrow(new PloughMaze(), " ".repeat(n)), -20 - n);
            }
            due("a digit and blanks", furrow(new PloughMaze(), " 0 "), -23);
        });
        sentence("10 furrow: a fault behind blanks has its place on THE TAPE", () -> {
            due("digit", furrow(new PloughMaze(), " 6"), -21);
            due("digit", furrow(new PloughMaze(), "0 6"), -22);
            due("edge", furrow(new PloughMaze(), "00 u"), -23);
            due("ploughed", furrow(new PloughMaze(), "0 0 r l"), -26);
        });
        sentence("10 furrow: THE TAPE is empty then, whatever is answered", () -> {
            PloughMaze x = new PloughMaze();
            due("taken", furrow(x, "22r"), 2);
            due("empty", x.type('0', 1), 1);
            due("a fault", x.furrow(), -21);
            due("empty", x.type('0', 1), 1);
            due("a fault", x.furrow(), -21);
            due("empty", x.furrow(), -20);
        });
        sentence("10 furrow: what stood on THE TAPE before is not read again", () -> {
            PloughMaze x = new PloughMaze();
            furrow(x, "22rrrd");
            due("shorter", furrow(x, "33"), 1);
            due("shorter yet", furrow(x, "3"), -21);
        });
        sentence("10 furrow: in place of THE FURROW", () -> {
            PloughMaze x = ploughed("00rr");
            furrow(x, "55u");
            due("count", x.count(0), 2);
            due("gaps", x.count(2), 1);
            due("place", x.told(0, 0), NONE);
            due("first", x.told(35, 0), 0);
        });
        sentence("10 furrow: with a FAULT the one told stays, also behind steps that could be gone", () -> {
            PloughMaze x = ploughed("22rdl");
            due("fault", furrow(x, "00rrrx"), -25);
            due("count", x.count(0), 4);
            due("round", x.count(1), 1);
            due("gaps", x.count(2), 4);
            due("place", x.told(20, 0), 3);
            due("place", x.told(0, 0), NONE);
            due("goes on", x.plough(19), 5);
        });
    }

    private static void seenFaults() {
        sentence("11 seen: an empty TAPE: the end is its fault", () -> due("seen", new PloughMaze().seen(), -20));
        sentence("11 seen: a digit is 0 .. 5, of ROW and COLUMN", () -> {
            for (int digit = 0; digit <= 9; digit++) {
                char side = digit < 5 ? 'd' : 'u';
                due("row " + digit, seen(new PloughMaze(), digit + "1" + side + "+"), digit <= 5 ? 1 : -20);
                side = digit < 5 ? 'r' : 'l';
                due("column " + digit, seen(new PloughMaze(), "1" + digit + side + "-"), digit <= 5 ? 1 : -21);
            }
        });
        sentence("11 seen: a SIDE's letter is u l r d alone", () -> {
            for (char letter = 33; letter < 127; letter++) {
                boolean isSide = "ulrd".indexOf(letter) >= 0;
                due("22" + letter, seen(new PloughMaze(), "22" + letter + "+"), isSide ? 1 : -22);
            }
        });
        sentence("11 seen: + or - alone", () -> {
            for (char letter = 33; letter < 127; letter++) {
                due("22u" + letter, seen(new PloughMaze(), "22u" + letter), letter == '+' || letter == '-' ? 1 : -23);
            }
        });
        sentence("11 seen: between two only a , stands", () -> {
            for (char letter = 33; letter < 127; letter++) {
                due("" + letter, seen(new PloughMaze(), "22u+" + letter + "22u+"), letter == ',' ? 2 : -24);
            }
        });
        sentence("11 seen: a SIDE without a SQUARE is the fault", () -> {
            for (int i = 0; i < 6; i++) {
                due("up", seen(new PloughMaze(), "0" + i + "u+"), -22);
                due("left", seen(new PloughMaze(), i + "0l-"), -22);
                due("right", seen(new PloughMaze(), i + "5r+"), -22);
                due("down", seen(new PloughMaze(), "5" + i + "d-"), -22);
            }
        });
        sentence("11 seen: the end within one is its fault", () -> {
            String part = "22u+,33d-";
            for (int n = 0; n <= part.length(); n++) {
                due(n + " bytes", seen(new PloughMaze(), part.substring(0, n)), n == 4 ? 1 : n == 9 ? 2 : -20 - n);
            }
        });
        sentence("11 seen: the + or - that says unlike of what was said is the fault", () -> {
            due("the same", seen(new PloughMaze(), "22u+,22u-"), -28);
            due("the same", seen(new PloughMaze(), "22u-,22u+"), -28);
            due("from the other", seen(new PloughMaze(), "22u+,12d-"), -28);
            due("from the other", seen(new PloughMaze(), "22l-,33u-,21r+"), -33);
            due("the fault of the side is first", seen(new PloughMaze(), "22u+,22x-"), -27);
        });
        sentence("11 seen: 1 to 12: as many as told", () -> {
            for (int n = 1; n <= 12; n++) {
                PloughMaze x = new PloughMaze();
                due(n + " told", seen(x, "22u+,".repeat(n - 1) + "22u+"), n);
                due("count", x.count(6), n);
            }
        });
        sentence("11 seen: no thirteenth: the , behind the twelfth is the fault", () -> {
            due("13", seen(new PloughMaze(), "22u+,".repeat(12) + "22u+"), -79);
            due("a , alone", seen(new PloughMaze(), "22u+,".repeat(12)), -79);
            due("blanks ahead of it", seen(new PloughMaze(), "22u+,".repeat(11) + "22u+  ,"), -81);
        });
        sentence("11 seen: behind the twelfth nothing but blanks", () -> {
            due("blanks", seen(new PloughMaze(), "22u+,".repeat(11) + "22u+" + " ".repeat(21)), 12);
            due("the last byte is the fault", seen(new PloughMaze(), "22u+,".repeat(11) + "22u+" + " ".repeat(20) + "x"), -99);
        });
    }

    private static void seenBlanks() {
        sentence("11 seen: blanks do not count as faults, wherever they are", () -> {
            due("blanks", seen(new PloughMaze(), "  2  2  u  +  ,  3  3  d  -  "), 2);
        });
        sentence("11 seen: the end's place is how many bytes there are, blanks too", () -> {
            for (int n = 1; n <= 80; n++) {
                due(n + " blanks", seen(new PloughMaze(), " ".repeat(n)), -20 - n);
            }
            due("behind a ,", seen(new PloughMaze(), "22u+, "), -26);
        });
        sentence("11 seen: a fault behind blanks has its place on THE TAPE", () -> {
            due("digit", seen(new PloughMaze(), " 6"), -21);
            due("side", seen(new PloughMaze(), "0 0 u+"), -24);
            due("sign", seen(new PloughMaze(), "22u x"), -24);
            due("unlike", seen(new PloughMaze(), "22u+ , 22u -"), -31);
        });
        sentence("11 seen: THE TAPE is empty then, whatever is answered", () -> {
            PloughMaze x = new PloughMaze();
            due("taken", seen(x, "22u+"), 1);
            due("empty", x.type('0', 1), 1);
            due("a fault", x.seen(), -21);
            due("empty", x.type('0', 1), 1);
            due("a fault", x.seen(), -21);
            due("empty", x.seen(), -20);
        });
        sentence("11 seen: in place of what was SEEN, which does not say unlike of it", () -> {
            PloughMaze x = new PloughMaze();
            seen(x, "22u+,22l-");
            due("seen", seen(x, "22u-"), 1);
            due("count", x.count(6), 1);
            due("fit", x.fit(14, 2, -1), 3);
        });
        sentence("11 seen: what is told twice alike counts twice", () -> {
            PloughMaze x = new PloughMaze();
            due("seen", seen(x, "22u+,12d+,22u+"), 3);
            due("count", x.count(6), 3);
            due("it is one gap all the same", x.fit(14, 2, -1), 1);
        });
        sentence("11 seen: with a FAULT what was SEEN stays, also behind what could be told", () -> {
            PloughMaze x = new PloughMaze();
            seen(x, "22u+,33d-");
            due("fault", seen(x, "22l+,22u-,22r-,99"), -35);
            due("count", x.count(6), 2);
            due("fit", x.fit(14, 2, -1), 1);
            due("fit", x.fit(13, 2, -1), 0);
            due("fault", seen(x, "22l+,22l-"), -28);
            due("count", x.count(6), 2);
            due("fit", x.fit(14, 2, -1), 1);
        });
        sentence("10, 11: a FURROW is no SEEN PART, and a SEEN PART is no FURROW", () -> {
            PloughMaze x = new PloughMaze();
            due("seen", seen(x, "22ud"), -23);
            due("furrow", furrow(x, "22u+"), -23);
            due("count", x.count(0), 0);
            due("count", x.count(6), 0);
        });
    }

    private static void count() {
        range("12 count: what", 0, 6, PloughMaze::new, (x, v) -> x.count(v));
        sentence("12 count: 0: SQUARES of THE FURROW, from none to 36", () -> {
            due("none", new PloughMaze().count(0), 0);
            due("one", ploughed("22").count(0), 1);
            due("all", ploughed(SNAKE).count(0), 36);
        });
        sentence("12 count: 2: GAPS: what is ploughed and eaten is one, what is SHUT none", () -> {
            PloughMaze x = ploughed("22r");
            x.deer(14, RIGHT);
            x.deer(14, LEFT);
            due("gaps", x.count(2), 2);
            x.shut(14, RIGHT, true);
            due("gaps", x.count(2), 1);
        });
        sentence("12 count: 3: eaten by DEER, SHUT or ploughed or not", () -> {
            PloughMaze x = ploughed("22r");
            x.deer(14, RIGHT);
            x.deer(14, LEFT);
            x.shut(14, RIGHT, true);
            due("eaten", x.count(3), 2);
        });
        sentence("12 count: 4: SHUT, a GAP or not", () -> {
            PloughMaze x = ploughed("22r");
            x.shut(14, RIGHT, true);
            x.shut(0, RIGHT, true);
            due("shut", x.count(4), 2);
        });
    }

    public static void main(String[] args) {
        newObject();
        squaresAndSides();
        plough();
        round();
        back();
        deer();
        shut();
        straw();
        set();
        told();
        type();
        furrowFaults();
        furrowBlanks();
        seenFaults();
        seenBlanks();
        count();
        end("FieldSentencesTest");
    }
}
