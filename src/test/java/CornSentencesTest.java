/** The edges that the document names under ==== 3 and promises 19 to 25, each sentence with a test of its own. */
public final class CornSentencesTest extends Sentences {
    /** Eight squares around 7, ROUND. */
    private static final String RING = "00rrddllu";

    private static void parts() {
        sentence("19 parts: all alone: 36", () -> due("parts", new PloughMaze().parts(), 36));
        sentence("19 parts: all together: 1", () -> {
            due("in a row", ploughed(SNAKE).parts(), 1);
            due("round", ploughed(ROUND_SNAKE).parts(), 1);
        });
        sentence("19 parts: one SQUARE ploughed is still one all alone", () -> due("parts", ploughed("22").parts(), 36));
        sentence("19 parts: by GAPS of THE FURROW and of DEER, each of two parts makes one less", () -> {
            PloughMaze x = ploughed("22rr");
            due("furrow", x.parts(), 34);
            x.deer(35, UP);
            due("deer", x.parts(), 33);
            x.deer(14, DOWN);
            due("deer at the furrow", x.parts(), 32);
            x.deer(20, RIGHT);
            x.deer(21, UP);
            due("a ring", x.parts(), 31);
        });
        sentence("19 parts: not through corn, however low", () -> {
            PloughMaze x = ploughed("22rr");
            for (int months = 0; months <= 9; months++) {
                x.set(0, months);
                due("months " + months, x.parts(), 34);
            }
        });
        sentence("19 parts: STRAW MEN or not", () -> {
            PloughMaze x = ploughed(SNAKE);
            for (int square = 0; square < 36; square++) {
                x.straw(square, true);
            }
            due("all full of them", x.parts(), 1);
        });
        sentence("19 parts: what is SHUT does not join", () -> {
            PloughMaze x = ploughed(RING);
            x.shut(0, RIGHT, true);
            due("a ring cut once", x.parts(), 29);
            x.shut(0, DOWN, true);
            due("cut twice", x.parts(), 30);
        });
    }

    private static void shutting() {
        range("20 shutting: what", 0, 2, () -> ploughed(RING), (x, v) -> x.shutting(v));
        sentence("20 shutting: NONE: there is no GAP", () -> {
            for (int what = 0; what < 3; what++) {
                due("shutting " + what, new PloughMaze().shutting(what), NONE);
            }
            PloughMaze low = new PloughMaze();
            low.set(0, 0);
            due("low corn", low.shutting(0), NONE);
        });
        sentence("20 shutting: NONE: each GAP is on the only way", () -> {
            for (int what = 0; what < 3; what++) {
                due("shutting " + what, ploughed("00rrdd").shutting(what), NONE);
            }
        });
        sentence("20 shutting: NONE: there is no way to leave", () -> {
            PloughMaze x = ploughed(RING);
            x.set(2, 35);
            due("no way at all", x.shutting(0), NONE);
        });
        sentence("20 shutting: the one that makes FAR from the DOOR most", () -> {
            PloughMaze x = ploughed(RING);
            x.set(2, 8);
            due("square", x.shutting(0), 8);
            due("side", x.shutting(1), DOWN);
            due("far then", x.shutting(2), 7);
        });
        sentence("20 shutting: one that makes it no longer may be SHUT as well", () -> {
            PloughMaze x = ploughed("00rrdd");
            x.deer(35, UP);
            due("square", x.shutting(0), 29);
            due("side", x.shutting(1), DOWN);
            due("far then", x.shutting(2), 4);
        });
        sentence("20 shutting: of like ones the first SQUARE", () -> {
            PloughMaze x = ploughed("00rrdd");
            x.deer(35, LEFT);
            x.deer(29, RIGHT);
            x.deer(28, RIGHT);
            due("square", x.shutting(0), 28);
            due("side", x.shutting(1), RIGHT);
        });
        sentence("20 shutting: of one SQUARE's like ones SIDE 2 before 3", () -> {
            PloughMaze x = ploughed(RING);
            due("square", x.shutting(0), 0);
            due("side", x.shutting(1), RIGHT);
            due("far then", x.shutting(2), 4);
        });
        sentence("20 shutting: SIDE 3 first, if 2 leaves no way", () -> {
            PloughMaze x = ploughed(RING);
            x.straw(6, true);
            due("square", x.shutting(0), 0);
            due("side", x.shutting(1), DOWN);
            due("far then", x.shutting(2), 4);
        });
        sentence("20 shutting: a later SQUARE's SIDE 2 not before an earlier one's 3", () -> {
            PloughMaze x = ploughed("00rrdd");
            x.deer(19, RIGHT);
            x.deer(18, DOWN);
            due("square", x.shutting(0), 18);
            due("side", x.shutting(1), DOWN);
        });
        sentence("20 shutting: the DOOR is the MIDDLE: 0, and the first GAP", () -> {
            PloughMaze x = ploughed(RING);
            x.set(2, 14);
            due("square", x.shutting(0), 0);
            due("side", x.shutting(1), RIGHT);
            due("far then", x.shutting(2), 0);
        });
        sentence("20 shutting: one that is SHUT is no GAP", () -> {
            PloughMaze x = ploughed(RING);
            x.shut(0, RIGHT, true);
            due("square", x.shutting(0), 1);
            due("side", x.shutting(1), RIGHT);
        });
        sentence("20 shutting: low corn leaves a way", () -> {
            PloughMaze x = ploughed("00r");
            x.set(0, 2);
            due("square", x.shutting(0), 0);
            due("far then", x.shutting(2), 4);
            x.set(0, 3);
            due("higher corn", x.shutting(0), NONE);
        });
        sentence("20 shutting: from a DOOR with a STRAW MAN one may go away", () -> {
            PloughMaze x = ploughed(RING);
            x.straw(0, true);
            due("far then", x.shutting(2), 4);
            x.straw(14, true);
            due("none comes to the middle", x.shutting(2), NONE);
        });
        sentence("20 shutting: it tells, and shuts nothing", () -> {
            PloughMaze x = ploughed(RING);
            x.shutting(0);
            due("shut", x.count(4), 0);
            due("gaps", x.count(2), 8);
        });
    }

    private static void days() {
        range("21 days: n", 1, 20, () -> ploughed(SNAKE), (x, v) -> x.days(v));
        sentence("21 days: none, if there is none to shut", () -> {
            due("no gap", new PloughMaze().days(20), 0);
            PloughMaze x = ploughed("00rrdd");
            due("the only way", x.days(20), 0);
            due("shut", x.count(4), 0);
        });
        sentence("21 days: as long as there is one to shut", () -> {
            PloughMaze x = ploughed(RING);
            due("four of twenty", x.days(20), 4);
            due("shut", x.count(4), 4);
            due("the way stays", x.far(0), 4);
            due("none more", x.days(1), 0);
        });
        sentence("21 days: n of them, if there are more", () -> {
            PloughMaze x = ploughed(SNAKE);
            due("20 of 21", x.days(20), 20);
            due("shut", x.count(4), 20);
            due("the last one", x.days(20), 1);
        });
        sentence("21 days: just as many as there are", () -> {
            PloughMaze x = ploughed(RING);
            due("four of four", x.days(4), 4);
            due("none more", x.days(1), 0);
        });
        sentence("21 days: each shuts the one that SHUTTING tells then", () -> {
            PloughMaze x = ploughed(RING);
            x.deer(7, DOWN);
            x.deer(7, LEFT);
            for (int day = 0; day < 6; day++) {
                int square = x.shutting(0);
                int side = x.shutting(1);
                int far = x.shutting(2);
                due("day " + day, x.days(1), square < 0 ? 0 : 1);
                due("far then", x.far(0), square < 0 ? 4 : far);
                due("it is shut", square < 0 ? 1 : x.shut(square, side, true), 1);
            }
        });
        sentence("21 days: two at once are one behind the other", () -> {
            PloughMaze x = ploughed(RING);
            PloughMaze y = ploughed(RING);
            x.days(2);
            y.days(1);
            y.days(1);
            for (int square = 0; square < 36; square++) {
                due("gaps of " + square, x.told(square, 1), y.told(square, 1));
            }
            due("shut", x.count(4), 2);
        });
        sentence("21 days: what was SHUT before does not count", () -> {
            PloughMaze x = ploughed(RING);
            x.shut(0, RIGHT, true);
            due("three more", x.days(20), 3);
            due("shut", x.count(4), 4);
        });
    }

    private static void bell() {
        range("22 bell: the SQUARE", 0, 35, PloughMaze::new, (x, v) -> x.bell(v));
        sentence("22 bell: 40 in the MIDDLE, wherever it is", () -> {
            for (int square = 0; square < 36; square++) {
                PloughMaze x = new PloughMaze();
                x.set(1, square);
                due("bell", x.bell(square), 40);
            }
        });
        sentence("22 bell: 5 less for each SQUARE gone by GAPS, 0 at least", () -> {
            PloughMaze x = ploughed("00rrrrrdllll");
            x.set(1, 0);
            for (int square = 0; square < 6; square++) {
                due("bell", x.bell(square), 40 - 5 * square);
            }
            PloughMaze y = ploughed(SNAKE);
            y.set(1, 35);
            due("8 gone, to the end", y.bell(30), 15);
            due("28 gone, but through corn", y.bell(2), 0);
        });
        sentence("22 bell: 5 and MONTHS less for each gone through corn, 0 at least", () -> {
            for (int months = 0; months <= 9; months++) {
                PloughMaze x = new PloughMaze();
                x.set(0, months);
                x.set(1, 0);
                for (int square = 0; square < 36; square++) {
                    int gone = square / 6 + square % 6;
                    due(square + " in " + months, x.bell(square), Math.max(0, 40 - gone * (5 + months)));
                }
            }
        });
        sentence("22 bell: to all SIDES alike", () -> {
            for (int middle = 0; middle < 36; middle++) {
                PloughMaze x = new PloughMaze();
                x.set(0, 1);
                x.set(1, middle);
                for (int square = 0; square < 36; square++) {
                    int gone = Math.abs(square / 6 - middle / 6) + Math.abs(square % 6 - middle % 6);
                    due(middle + " in " + square, x.bell(square), Math.max(0, 40 - 6 * gone));
                }
            }
        });
        sentence("22 bell: exactly 0, and 0 where it would be less", () -> {
            PloughMaze x = new PloughMaze();
            x.set(0, 0);
            x.set(1, 0);
            due("7 gone", x.bell(32), 5);
            due("8 gone", x.bell(33), 0);
            due("9 gone", x.bell(34), 0);
            due("10 gone", x.bell(35), 0);
        });
        sentence("22 bell: the most by any way, through corn or around it", () -> {
            PloughMaze x = ploughed("22rdl");
            x.shut(14, DOWN, true);
            x.set(0, 9);
            due("14 through corn, 15 around", x.bell(20), 26);
            x.deer(13, RIGHT);
            x.deer(13, DOWN);
            x.deer(19, RIGHT);
            due("still", x.bell(20), 26);
            x.shut(14, DOWN, false);
            due("by the gap", x.bell(20), 35);
            PloughMaze y = ploughed("00rrrd");
            y.set(1, 0);
            y.set(0, 9);
            due("20 by four gaps, 28 by two of corn", y.bell(9), 20);
        });
        sentence("22 bell: by GAPS and corn together", () -> {
            PloughMaze x = ploughed("22rr");
            due("two gaps, one corn", x.bell(17), 40 - 5 - 5 - 14);
            due("a gap, a corn", x.bell(21), 40 - 5 - 14);
        });
        sentence("22 bell: STRAW MEN are no matter to it", () -> {
            PloughMaze x = ploughed("22rr");
            x.straw(14, true);
            x.straw(15, true);
            x.straw(16, true);
            due("bell", x.bell(16), 30);
        });
        sentence("22 bell: what is SHUT is corn to it", () -> {
            PloughMaze x = ploughed("22r");
            x.shut(14, RIGHT, true);
            due("bell", x.bell(15), 26);
        });
        sentence("22 bell: it does not go beyond the edge", () -> {
            PloughMaze x = new PloughMaze();
            x.set(1, 5);
            x.set(0, 0);
            due("6 is not beside 5", x.bell(6), 10);
            due("0 is not beside 5", x.bell(0), 15);
        });
    }

    private static void fitNumbers() {
        range("23 fit: the SQUARE", 0, 35, PloughMaze::new, (x, v) -> x.fit(v, 2, -1));
        range("23 fit: so many SQUARES", 2, 9, PloughMaze::new, (x, v) -> x.fit(0, v, -1));
        for (int many = 2; many <= 9; many++) {
            int n = many;
            range("23 fit: k of " + n, -2, n - 1, PloughMaze::new, (x, v) -> x.fit(14, n, v));
        }
        sentence("23 fit: 2 SQUARES: as many as are NEXT", () -> {
            for (int square = 0; square < 36; square++) {
                int sides = 0;
                for (int side = 0; side < 4; side++) {
                    sides += next(square, side) >= 0 ? 1 : 0;
                }
                due("fit " + square, new PloughMaze().fit(square, 2, -1), sides);
            }
        });
        sentence("23 fit: 9 SQUARES: as many as there are", () -> {
            for (int square = 0; square < 36; square += 7) {
                int all = furrowsFrom(new boolean[36], square, 9);
                due("fit " + square, new PloughMaze().fit(square, 9, -1), all);
            }
        });
    }

    /** How many furrows of so many squares begin on one. */
    private static int furrowsFrom(boolean[] been, int square, int many) {
        if (square < 0 || been[square]) {
            return 0;
        }
        if (many == 1) {
            return 1;
        }
        been[square] = true;
        int all = 0;
        for (int side = 0; side < 4; side++) {
            all += furrowsFrom(been, next(square, side), many - 1);
        }
        been[square] = false;
        return all;
    }

    private static void fitSeen() {
        sentence("23 fit: each GAP seen is theirs", () -> {
            PloughMaze x = new PloughMaze();
            seen(x, "22u+");
            due("two of 14", x.fit(14, 2, -1), 1);
            due("two of 8", x.fit(8, 2, -1), 1);
            due("two of 13", x.fit(13, 2, -1), 0);
            due("three of 13", x.fit(13, 3, -1), 1);
        });
        sentence("23 fit: none where corn was seen", () -> {
            PloughMaze x = new PloughMaze();
            seen(x, "22u-,22r-");
            due("two of 14", x.fit(14, 2, -1), 2);
            due("two of 8", x.fit(8, 2, -1), 3);
            due("two of 15", x.fit(15, 2, -1), 3);
        });
        sentence("23 fit: a GAP out of reach: none fits", () -> {
            PloughMaze x = new PloughMaze();
            seen(x, "55u+");
            due("count", x.fit(0, 9, -1), 0);
            due("hardest", x.fit(0, 9, -2), NONE);
            due("square", x.fit(0, 9, 0), NONE);
        });
        sentence("23 fit: corn all around: none fits", () -> {
            PloughMaze x = new PloughMaze();
            seen(x, "22u-,22l-,22r-,22d-");
            due("count", x.fit(14, 2, -1), 0);
            due("hardest", x.fit(14, 2, -2), NONE);
        });
        sentence("23 fit: 8 GAPS are the most of 9 SQUARES that are not ROUND", () -> {
            PloughMaze x = new PloughMaze();
            seen(x, "00r+,01r+,02r+,03r+,04r+,05d+,15d+,25d+");
            due("all", x.fit(0, 9, -1), 1);
            due("from the other end", x.fit(23, 9, -1), 1);
            due("one fewer", x.fit(0, 8, -1), 0);
            seen(x, "00r+,01r+,02r+,03r+,04r+,05d+,15d+,25d+,35d+");
            due("nine", x.fit(0, 9, -1), 0);
        });
        sentence("23 fit: what is told twice alike asks no more than once", () -> {
            PloughMaze x = new PloughMaze();
            seen(x, "22u+,12d+,22u+");
            due("two", x.fit(14, 2, -1), 1);
        });
        sentence("23 fit: the field is no matter, nor STRAW MEN nor the MONTH", () -> {
            PloughMaze x = ploughed("22rrr");
            x.deer(14, UP);
            x.shut(14, LEFT, true);
            x.straw(8, true);
            x.straw(14, true);
            x.set(0, 0);
            due("two", x.fit(14, 2, -1), 4);
            due("hardest", x.fit(8, 2, -2), 1);
        });
    }

    private static void fitRound() {
        sentence("23 fit: ROUND with 4: its last GAP is its own, too", () -> {
            PloughMaze x = new PloughMaze();
            seen(x, "00r+,00d+,01d+,10r+");
            for (int square : new int[] {0, 1, 6, 7}) {
                due("both ways around from " + square, x.fit(square, 4, -1), 2);
            }
            due("three have not four", x.fit(0, 3, -1), 0);
            due("five are not round", x.fit(0, 5, -1), 0);
        });
        sentence("23 fit: ROUND with 4: corn seen at its last GAP forbids it", () -> {
            PloughMaze x = new PloughMaze();
            seen(x, "00d-");
            due("with four of 0", x.fit(0, 4, -1), 4);
            seen(x, "00r-");
            due("with four of 0", x.fit(0, 4, -1), 4);
            due("without", new PloughMaze().fit(0, 4, -1), 10);
        });
        sentence("23 fit: with 3 none is ROUND, nor with 2", () -> {
            PloughMaze x = new PloughMaze();
            seen(x, "00r+,01d+");
            due("a hook of 3", x.fit(0, 3, -1), 1);
            seen(x, "00r+,01d+,10r+");
            due("three gaps of 3", x.fit(0, 3, -1), 0);
            seen(x, "00r+,00d-");
            due("2", x.fit(0, 2, -1), 1);
        });
        sentence("23 fit: ROUND with 8: 8 GAPS of 8 SQUARES", () -> {
            PloughMaze x = new PloughMaze();
            seen(x, "00r+,01r+,02d+,12d+,22l+,21l+,20u+,10u+");
            due("both ways around", x.fit(0, 8, -1), 2);
            due("nine are not round", x.fit(0, 9, -1), 0);
        });
        sentence("23 THE HARDEST: a ROUND one is gone the shorter way around", () -> {
            PloughMaze x = new PloughMaze();
            seen(x, "00r+,01r+,02d+,12d+,22l+,21l+,20u+,10u+");
            x.set(1, 6);
            due("7 one way, 1 the other", x.fit(0, 8, -2), 1);
            x.set(1, 14);
            due("4 both ways", x.fit(0, 8, -2), 4);
            x.set(1, 8);
            due("3 one way, 5 the other", x.fit(0, 8, -2), 3);
            due("of like ones the first: up comes before left, right before down", x.fit(0, 8, 1), 1);
        });
    }

    private static void fitHardest() {
        sentence("23 THE HARDEST: NONE, if none has the MIDDLE", () -> {
            PloughMaze x = new PloughMaze();
            due("steps", x.fit(0, 4, -2), NONE);
            for (int k = 0; k < 4; k++) {
                due("square " + k, x.fit(0, 4, k), NONE);
            }
            due("they are many all the same", x.fit(0, 4, -1), 10);
        });
        sentence("23 THE HARDEST: the last SQUARE of the fewest that come to the MIDDLE", () -> {
            due("with 4", new PloughMaze().fit(0, 4, -2), NONE);
            due("with 5", new PloughMaze().fit(0, 5, -2), 4);
            int[] row = {0, 1, 2, 8, 14};
            for (int k = 0; k < 5; k++) {
                due("square " + k, new PloughMaze().fit(0, 5, k), row[k]);
            }
        });
        sentence("23 THE HARDEST: from the MIDDLE on: 0 STEPS, the first by SIDES", () -> {
            int[] row = {14, 8, 2, 1};
            PloughMaze x = new PloughMaze();
            due("steps", x.fit(14, 4, -2), 0);
            for (int k = 0; k < 4; k++) {
                due("square " + k, x.fit(14, 4, k), row[k]);
            }
        });
        sentence("23 THE HARDEST: the most STEPS, not the first that has it", () -> {
            PloughMaze x = new PloughMaze();
            x.set(1, 1);
            due("with 2", x.fit(0, 2, -2), 1);
            due("with 4, three off but ROUND", x.fit(0, 4, -2), 1);
            due("with 5, three off", x.fit(0, 5, -2), 3);
            x.set(1, 12);
            due("with 5", x.fit(0, 5, -2), 4);
            int[] row = {0, 1, 7, 6, 12};
            for (int k = 0; k < 5; k++) {
                due("square " + k, x.fit(0, 5, k), row[k]);
            }
        });
        sentence("23 THE HARDEST: of like ones the first by SIDES as a row: up, left, right, down", () -> {
            PloughMaze x = new PloughMaze();
            x.set(1, 21);
            due("steps", x.fit(14, 3, -2), 2);
            due("right before down", x.fit(14, 3, 1), 15);
            x.set(1, 7);
            due("up before left", x.fit(14, 3, 1), 8);
            x.set(1, 19);
            due("left before down", x.fit(14, 3, 1), 13);
        });
        sentence("23 THE HARDEST: the MIDDLE at the moment", () -> {
            PloughMaze x = new PloughMaze();
            x.set(1, 35);
            due("none", x.fit(0, 9, -2), NONE);
            due("35 itself", x.fit(35, 9, -2), 0);
            due("one beside it", x.fit(34, 2, -2), 1);
            due("one beside it", x.fit(34, 2, 1), 35);
        });
    }

    private static void image() {
        sentence("25 restore: NONE: there is none, and all stays", () -> {
            PloughMaze x = ploughed("22r");
            due("restore", x.restore(), NONE);
            due("count", x.count(0), 2);
        });
        sentence("24 image: of a new object: all is as at first", () -> {
            PloughMaze x = new PloughMaze();
            due("image", x.image(), 1);
            furrow(x, RING);
            x.deer(14, DOWN);
            x.shut(0, RIGHT, true);
            x.straw(0, true);
            x.set(0, 0);
            x.set(1, 35);
            x.set(2, 35);
            seen(x, "00r-");
            due("restore", x.restore(), 1);
            for (int what = 0; what <= 6; what++) {
                due("count " + what, x.count(what), 0);
            }
            for (int square = 0; square < 36; square++) {
                due("place of " + square, x.told(square, 0), NONE);
                due("gaps of " + square, x.told(square, 1), 0);
                due("straw man on " + square, x.told(square, 2), 0);
            }
            due("months", x.set(0, 9), 9);
            due("middle", x.set(1, 14), 14);
            due("door", x.set(2, 0), 0);
            due("fit", x.fit(0, 2, -1), 2);
            due("any can be the first", x.plough(20), 1);
        });
        sentence("24 image: again: the later one is restored, as often as asked", () -> {
            PloughMaze x = ploughed("22");
            x.image();
            x.plough(15);
            x.image();
            x.plough(16);
            for (int time = 0; time < 3; time++) {
                due("restore", x.restore(), 1);
                due("count", x.count(0), 2);
                x.back(2);
            }
        });
        sentence("24 image: what is changed behind it does not change it", () -> {
            PloughMaze x = ploughed("22rdl");
            x.image();
            x.back(4);
            x.plough(0);
            x.plough(1);
            x.restore();
            due("first", x.told(14, 0), 0);
            due("last", x.told(20, 0), 3);
            due("round", x.count(1), 1);
            due("gaps", x.count(2), 4);
            x.back(1);
            x.restore();
            due("again", x.count(0), 4);
        });
        sentence("24 image: THE FURROW, what DEER ate, what is SHUT, STRAW MEN", () -> {
            PloughMaze x = ploughed("22rdl");
            x.deer(0, RIGHT);
            x.shut(14, RIGHT, true);
            x.straw(35, true);
            x.image();
            furrow(x, "55u");
            x.deer(1, RIGHT);
            x.shut(14, RIGHT, false);
            x.shut(0, RIGHT, true);
            x.straw(35, false);
            x.straw(0, true);
            x.restore();
            due("furrow", x.count(0), 4);
            due("gaps", x.count(2), 4);
            due("eaten", x.count(3), 1);
            due("eaten", x.told(0, 1), 1 << RIGHT);
            due("shut", x.told(14, 1), 1 << DOWN);
            due("shut", x.shut(14, RIGHT, true), 1);
            due("open", x.shut(0, RIGHT, false), 0);
            due("straw man", x.told(35, 2), 1);
            due("none", x.told(0, 2), 0);
        });
        sentence("24 image: MONTHS, the MIDDLE, the DOOR", () -> {
            PloughMaze x = new PloughMaze();
            for (int what = 0; what < 3; what++) {
                x.set(what, 4 + what);
            }
            x.image();
            for (int what = 0; what < 3; what++) {
                x.set(what, 1 + what);
            }
            x.restore();
            for (int what = 0; what < 3; what++) {
                due("set " + what, x.set(what, 0), 4 + what);
            }
        });
        sentence("24 image: the GAPS and the corn that were SEEN", () -> {
            PloughMaze x = new PloughMaze();
            seen(x, "22u+,11r-");
            x.image();
            seen(x, "22l+,12l-,00r+");
            x.restore();
            due("count", x.count(6), 2);
            due("the gap", x.fit(14, 2, -1), 1);
            due("not the other", x.fit(13, 2, -1), 0);
            due("the corn", x.fit(14, 3, -1), 2);
            seen(x, "12r-");
            x.restore();
            due("again", x.fit(14, 2, -1), 1);
        });
        sentence("24 image: all but THE TAPE", () -> {
            PloughMaze x = new PloughMaze();
            x.type('2', 1);
            x.image();
            due("image keeps it", x.type('2', 1), 2);
            x.restore();
            due("restore keeps it", x.type('r', 1), 3);
            due("furrow", x.furrow(), 2);
            x.restore();
            due("empty all the same", x.furrow(), -20);
        });
        sentence("24 image: all but SHEETS", () -> {
            PloughMaze x = new PloughMaze();
            x.sheet(0, 0, 3);
            x.sheet(1, 1, 4);
            x.image();
            x.item(0, 0, 0, 7);
            x.drop(1);
            x.sheet(2, 2, 5);
            x.restore();
            due("item", x.go(0, 0, 0, 1), 1);
            due("item", x.told(7, 0), 0);
            due("dropped", x.drop(1), NULL);
            due("new", x.drop(2), 5);
        });
        sentence("25 restore: eaten by DEER: there is room again, or none", () -> {
            PloughMaze x = new PloughMaze();
            x.image();
            for (int i = 0; i < 10; i++) {
                x.deer(i, DOWN);
            }
            due("full", x.deer(20, RIGHT), FULL);
            x.restore();
            due("room", x.deer(20, RIGHT), 1);
        });
    }

    public static void main(String[] args) {
        parts();
        shutting();
        days();
        bell();
        fitNumbers();
        fitSeen();
        fitRound();
        fitHardest();
        image();
        end("CornSentencesTest");
    }
}
