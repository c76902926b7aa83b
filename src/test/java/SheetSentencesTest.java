import java.util.function.Supplier;

/** The edges that the document names ahead of ---- 4 and in promises 26 to 30, each sentence with a test of its own. */
public final class SheetSentencesTest extends Sentences {

    /** Sheets 0, 1 and 2 hold the whole snake each, in the lane of their number; sheet 3 nothing. */
    private static PloughMaze snakes() {
        PloughMaze x = new PloughMaze();
        for (int lane = 0; lane < 3; lane++) {
            x.sheet(lane, lane, 36);
            for (int i = 0; i < 36; i++) {
                x.item(lane, lane, i, snake(i));
            }
        }
        return x;
    }

    private static int snake(int i) {
        return i / 6 % 2 == 0 ? i : i / 6 * 12 + 5 - i;
    }

    /** A sheet 0 of ints that holds these alone. */
    private static PloughMaze holding(int... items) {
        PloughMaze x = new PloughMaze();
        x.sheet(0, 2, items.length);
        for (int i = 0; i < items.length; i++) {
            x.item(0, 2, i, items[i]);
        }
        return x;
    }

    private static void go() {
        Supplier<PloughMaze> maker = SheetSentencesTest::snakes;
        range("26 go: the SHEET", 0, 3, maker, (x, v) -> x.go(v, 0, 0, 1));
        range("26 go: the LANE", 0, 2, maker, (x, v) -> x.go(0, v, 0, 1));
        range("26 go: n SQUARES", 1, 36, maker, (x, v) -> x.go(0, 0, 0, v));
        sentence("26 go: n of them, from 1 to 36, of each LANE", () -> {
            for (int lane = 0; lane < 3; lane++) {
                for (int n = 1; n <= 36; n++) {
                    PloughMaze x = snakes();
                    due("go " + n, x.go(lane, lane, 0, n), n);
                    due("count", x.count(0), n);
                    due("the last", x.told(snake(n - 1), 0), n - 1);
                }
            }
        });
        sentence("26 go: from one on, to the last item", () -> {
            PloughMaze x = snakes();
            for (int from = 0; from < 36; from++) {
                due("go from " + from, x.go(1, 1, from, 36 - from), 36 - from);
                due("the first", x.told(snake(from), 0), 0);
            }
        });
        sentence("26 go: INDEX: an item behind the last, or ahead of the first", () -> {
            PloughMaze x = snakes();
            for (int from = 0; from < 36; from++) {
                due("one too many from " + from, x.go(2, 2, from, Math.min(36, 37 - from)), from == 0 ? 36 : INDEX);
            }
            due("from 36", x.go(2, 2, 36, 1), INDEX);
            due("from -1", x.go(2, 2, -1, 1), INDEX);
            due("from -1, all", x.go(2, 2, -1, 36), INDEX);
            due("from the most", x.go(2, 2, MOST, 1), INDEX);
            due("from the most, all", x.go(2, 2, MOST, 36), INDEX);
            due("from the least", x.go(2, 2, LEAST, 36), INDEX);
        });
        sentence("26 go: INDEX: more than the SHEET has", () -> {
            PloughMaze x = holding(14, 15, 16);
            due("all", x.go(0, 2, 0, 3), 3);
            due("one more", x.go(0, 2, 0, 4), INDEX);
            due("36", x.go(0, 2, 0, 36), INDEX);
        });
        sentence("26 go: INDEX: a SHEET of 0 items", () -> {
            PloughMaze x = holding();
            due("from 0", x.go(0, 2, 0, 1), INDEX);
            due("from -1", x.go(0, 2, -1, 1), INDEX);
        });
        sentence("26 go: NOT: one is no SQUARE, the first, one in the midst or the last", () -> {
            for (int wrong : new int[] {-1, 36, 255, LEAST, MOST}) {
                due("the first", holding(wrong, 15, 16).go(0, 2, 0, 3), NOT);
                due("in the midst", holding(14, wrong, 16).go(0, 2, 0, 3), NOT);
                due("the last", holding(14, 15, wrong).go(0, 2, 0, 3), NOT);
                due("alone", holding(wrong).go(0, 2, 0, 1), NOT);
                due("not among the n", holding(14, 15, wrong).go(0, 2, 0, 2), 2);
            }
        });
        sentence("26 go: NOT: one is not NEXT to the one before", () -> {
            due("two off", holding(14, 16).go(0, 2, 0, 2), NOT);
            due("over the edge", holding(17, 18).go(0, 2, 0, 2), NOT);
            due("the last", holding(14, 15, 14 + 6).go(0, 2, 0, 3), NOT);
            due("to the first would do", holding(14, 15, 13).go(0, 2, 0, 3), NOT);
        });
        sentence("26 go: NOT: one comes twice", () -> {
            due("at once", holding(14, 14).go(0, 2, 0, 2), NOT);
            due("back", holding(14, 15, 14).go(0, 2, 0, 3), NOT);
            due("round", holding(14, 15, 21, 20, 14).go(0, 2, 0, 5), NOT);
            due("round but for it", holding(14, 15, 21, 20, 14).go(0, 2, 0, 4), 4);
        });
        sentence("26 go: in place of THE FURROW, which need not be NEXT to it", () -> {
            PloughMaze x = holding(14, 15, 21, 20);
            furrow(x, "00rr");
            due("go", x.go(0, 2, 0, 4), 4);
            due("count", x.count(0), 4);
            due("round", x.count(1), 1);
            due("gaps", x.count(2), 4);
            due("place", x.told(0, 0), NONE);
        });
        sentence("26 go: what is ploughed already may come again", () -> {
            PloughMaze x = holding(14, 15);
            due("go", x.go(0, 2, 0, 2), 2);
            due("once more", x.go(0, 2, 0, 2), 2);
            due("count", x.count(0), 2);
        });
        sentence("26 go: NOT: THE FURROW stays, though the first ones could be gone", () -> {
            PloughMaze x = holding(0, 1, 2, 36);
            furrow(x, "22rdl");
            due("go", x.go(0, 2, 0, 4), NOT);
            due("count", x.count(0), 4);
            due("round", x.count(1), 1);
            due("gaps", x.count(2), 4);
            due("place", x.told(20, 0), 3);
            due("place", x.told(0, 0), NONE);
        });
        sentence("26 go: the SHEET stays as it was", () -> {
            PloughMaze x = holding(14, 15, 16);
            x.go(0, 2, 0, 3);
            x.back(3);
            due("go", x.go(0, 2, 1, 2), 2);
            due("drop", x.drop(0), 3);
        });
    }

    private static void sheet() {
        range("27 sheet: the SHEET", 0, 3, PloughMaze::new, (x, v) -> x.sheet(v, 0, 1));
        range("27 sheet: the LANE", 0, 2, PloughMaze::new, (x, v) -> x.sheet(0, v, 1));
        sentence("27 sheet: 0 to 36 items are taken", () -> {
            for (int n = 0; n <= 36; n++) {
                PloughMaze x = new PloughMaze();
                due("sheet " + n, x.sheet(n % 4, n % 3, n), n);
                due("behind the last", x.item(n % 4, n % 3, n, 0), INDEX);
                due("the last", x.item(n % 4, n % 3, n - 1, 0), n == 0 ? INDEX : 1);
                due("drop", x.drop(n % 4), n);
            }
        });
        sentence("27 sheet: BAD: n above 36", () -> {
            for (int n : new int[] {37, 38, 1000, MOST}) {
                due("sheet " + n, new PloughMaze().sheet(0, 0, n), BAD);
            }
        });
        sentence("27 sheet: SIZE: n below 0", () -> {
            for (int n : new int[] {-1, -36, -1000, LEAST}) {
                due("sheet " + n, new PloughMaze().sheet(0, 0, n), SIZE);
            }
        });
        sentence("27 sheet: refused, the old row stays", () -> {
            PloughMaze x = holding(14, 15);
            due("size", x.sheet(0, 1, -1), SIZE);
            due("bad", x.sheet(0, 1, 37), BAD);
            due("bad lane", x.sheet(0, 3, 1), BAD);
            due("go", x.go(0, 2, 0, 2), 2);
            due("drop", x.drop(0), 2);
            due("nothing stays nothing", x.sheet(0, 0, -1), SIZE);
            due("nothing", x.drop(0), NULL);
        });
        sentence("27 sheet: a new row: 0 in all its items, also in place of a row alike", () -> {
            PloughMaze x = holding(14, 15);
            x.sheet(0, 2, 2);
            for (int i = 0; i < 2; i++) {
                due("go", x.go(0, 2, i, 1), 1);
                due("0", x.told(0, 0), 0);
            }
            x.item(0, 2, 1, 7);
            x.sheet(0, 2, 1);
            x.sheet(0, 2, 2);
            due("go", x.go(0, 2, 1, 1), 1);
            due("0 again", x.told(0, 0), 0);
        });
        sentence("27 sheet: a new row of 0 items is a row all the same", () -> {
            PloughMaze x = new PloughMaze();
            x.sheet(0, 1, 0);
            due("index", x.item(0, 1, 0, 0), INDEX);
            due("cast", x.item(0, 0, 0, 0), CAST);
            due("drop", x.drop(0), 0);
            due("nothing", x.item(0, 1, 0, 0), NULL);
        });
        sentence("27 sheet: each SHEET is its own", () -> {
            PloughMaze x = new PloughMaze();
            for (int sheet = 0; sheet < 4; sheet++) {
                x.sheet(sheet, 0, sheet + 1);
                x.item(sheet, 0, 0, sheet + 20);
            }
            for (int sheet = 0; sheet < 4; sheet++) {
                due("go", x.go(sheet, 0, 0, 1), 1);
                due("item", x.told(sheet + 20, 0), 0);
                due("drop", x.drop(sheet), sheet + 1);
            }
        });
    }

    private static void drop() {
        range("28 drop: the SHEET", 0, 3, PloughMaze::new, (x, v) -> x.drop(v));
        sentence("28 drop: how many items it had, from 0 to 36", () -> {
            for (int n = 0; n <= 36; n++) {
                PloughMaze x = new PloughMaze();
                x.sheet(3, 1, n);
                due("drop " + n, x.drop(3), n);
                due("nothing", x.drop(3), NULL);
            }
        });
        sentence("28 drop: NULL: it holds nothing, at first and again", () -> {
            PloughMaze x = new PloughMaze();
            due("at first", x.drop(0), NULL);
            x.sheet(0, 0, 0);
            due("0 items are a row", x.drop(0), 0);
            due("again", x.drop(0), NULL);
            due("go", x.go(0, 0, 0, 1), NULL);
            due("item", x.item(0, 0, 0, 0), NULL);
            due("film", x.film(0, 0, 0), NULL);
        });
        sentence("28 drop: the other SHEETS stay", () -> {
            PloughMaze x = snakes();
            x.drop(1);
            due("0", x.go(0, 0, 0, 1), 1);
            due("2", x.go(2, 2, 0, 1), 1);
        });
    }

    private static void item() {
        range("29 item: the SHEET", 0, 3, PloughMaze::new, (x, v) -> x.item(v, 0, 0, 0));
        range("29 item: the LANE", 0, 2, PloughMaze::new, (x, v) -> x.item(0, v, 0, 0));
        sentence("29 item: INDEX: i is 0 .. the items less 1", () -> {
            for (int lane = 0; lane < 3; lane++) {
                PloughMaze x = snakes();
                due("the first", x.item(lane, lane, 0, 5), 1);
                due("the last", x.item(lane, lane, 35, 5), 1);
                due("behind it", x.item(lane, lane, 36, 5), INDEX);
                due("ahead of the first", x.item(lane, lane, -1, 5), INDEX);
                due("the most", x.item(lane, lane, MOST, 5), INDEX);
                due("the least", x.item(lane, lane, LEAST, 5), INDEX);
            }
        });
        sentence("29 item: only that item becomes v", () -> {
            PloughMaze x = holding(7, 8, 9);
            x.item(0, 2, 1, 20);
            int[] row = {7, 20, 9};
            for (int i = 0; i < 3; i++) {
                x.go(0, 2, i, 1);
                due("item " + i, x.told(row[i], 0), 0);
            }
        });
        sentence("29 item: every v is taken: the LANE's lowest bits of it, with their sign", () -> {
            int[] all = {0, 35, 36, 127, 128, 255, 256, 291, 292, -1, -36, -128, -221, -256, 32767, 32768, 65535, 65536,
                65571, -65501, -65536, 1 << 24 | 35, LEAST, LEAST + 35, MOST};
            for (int lane = 0; lane < 3; lane++) {
                for (int v : all) {
                    PloughMaze x = new PloughMaze();
                    x.sheet(0, lane, 1);
                    due("item " + v, x.item(0, lane, 0, v), 1);
                    int held = lane == 0 ? (byte) v : lane == 1 ? (short) v : v;
                    boolean isSquare = held >= 0 && held <= 35;
                    due("go " + v, x.go(0, lane, 0, 1), isSquare ? 1 : NOT);
                    due("told " + v, isSquare ? x.told(held, 0) : 0, 0);
                }
            }
        });
    }

    private static void film() {
        range("30 film: the SHEET", 0, 3, SheetSentencesTest::snakes, (x, v) -> x.film(v, 0, 0));
        range("30 film: the LANE", 0, 2, SheetSentencesTest::snakes, (x, v) -> x.film(0, v, 0));
        sentence("30 film: INDEX: 36 items are needed", () -> {
            for (int n = 0; n <= 36; n++) {
                PloughMaze x = new PloughMaze();
                x.sheet(0, 0, n);
                due("film in " + n, x.film(0, 0, 0), n == 36 ? 36 : INDEX);
            }
        });
        sentence("30 film: INDEX: from 0 alone they have a place", () -> {
            for (int from : new int[] {-1, 1, 35, 36, LEAST, MOST, MOST - 35}) {
                due("from " + from, snakes().film(0, 0, from), INDEX);
            }
            due("from 0", snakes().film(0, 0, 0), 36);
        });
        sentence("30 film: refused, the SHEET stays as it was", () -> {
            PloughMaze x = snakes();
            x.film(0, 0, 1);
            x.film(0, 1, 0);
            due("go", x.go(0, 0, 0, 36), 36);
        });
        sentence("30 film: FAR of all SQUARES, of each LANE", () -> {
            for (int lane = 0; lane < 3; lane++) {
                PloughMaze x = new PloughMaze();
                furrow(x, SNAKE);
                x.set(1, 30);
                x.sheet(0, lane, 36);
                due("film", x.film(0, lane, 0), 36);
                for (int square = 0; square < 36; square++) {
                    int far = x.far(square);
                    x.image();
                    due("go", x.go(0, lane, square, 1), 1);
                    due("far of " + square, x.told(far, 0), 0);
                    x.restore();
                }
            }
        });
        sentence("30 film: NONE as -4, which is no SQUARE", () -> {
            for (int lane = 0; lane < 3; lane++) {
                PloughMaze x = new PloughMaze();
                x.sheet(0, lane, 36);
                due("film", x.film(0, lane, 0), 36);
                for (int square = 0; square < 36; square++) {
                    due("go", x.go(0, lane, square, 1), square == 14 ? 1 : NOT);
                    x.back(1);
                }
            }
        });
        sentence("30 film: FAR is of one who is no CHILD and has no rope", () -> {
            for (int lane = 0; lane < 3; lane++) {
                PloughMaze x = ploughed("22rrr");
                x.set(0, 3);
                x.straw(16, true);
                x.sheet(0, lane, 36);
                x.film(0, lane, 0);
                due("corn", x.go(0, lane, 20, 1), NOT);
                due("behind a straw man", x.go(0, lane, 17, 1), NOT);
                due("on a straw man", x.go(0, lane, 16, 1), 1);
                due("2", x.told(2, 0), 0);
            }
        });
        sentence("30 film: the SHEET keeps what was FAR then", () -> {
            PloughMaze x = ploughed("22rr");
            x.sheet(0, 0, 36);
            x.film(0, 0, 0);
            x.shut(14, RIGHT, true);
            due("go", x.go(0, 0, 16, 1), 1);
            due("2", x.told(2, 0), 0);
        });
    }

    public static void main(String[] args) {
        go();
        sheet();
        drop();
        item();
        film();
        end("SheetSentencesTest");
    }
}
