/** The edges that the document names under ==== 2 and promises 13 to 18, each sentence with a test of its own. */
public final class WalkerSentencesTest extends Sentences {
    private static final int[] NO_CHILDREN = {BLIND, WALL, CHALK};
    /** What stands at the sides of each kind's first look, in quarters to the right of the one ahead. */
    private static final int[] BLIND_LOOKS = {0, 1, 2, 3};
    private static final int[] OTHERS_LOOK = {3, 0, 1, 2};

    private static void numbers() {
        range("13 walk: the KIND", 0, 3, PloughMaze::new, (x, v) -> x.walk(v, 0, UP));
        range("13 walk: the SQUARE", 0, 35, PloughMaze::new, (x, v) -> x.walk(BLIND, v, UP));
        range("13 walk: the SIDE", 0, 3, PloughMaze::new, (x, v) -> x.walk(BLIND, 0, v));
        range("14 at: the KIND", 0, 3, PloughMaze::new, (x, v) -> x.at(v, 0, UP, 1));
        range("14 at: the SQUARE", 0, 35, PloughMaze::new, (x, v) -> x.at(BLIND, v, UP, 1));
        range("14 at: the SIDE", 0, 3, PloughMaze::new, (x, v) -> x.at(BLIND, 0, v, 1));
        range("14 at: so many STEPS", 0, 999, PloughMaze::new, (x, v) -> x.at(BLIND, 0, UP, v));
        range("15 worst: the KIND", 0, 3, PloughMaze::new, (x, v) -> x.worst(v, UP, 0));
        range("15 worst: the SIDE", 0, 3, PloughMaze::new, (x, v) -> x.worst(BLIND, v, 0));
        range("15 worst: what", 0, 2, PloughMaze::new, (x, v) -> x.worst(BLIND, UP, v));
        range("16 far: the SQUARE", 0, 35, PloughMaze::new, (x, v) -> x.far(v));
        range("17 roped: the SQUARE", 0, 35, PloughMaze::new, (x, v) -> x.roped(v));
        range("18 two: the KIND", 0, 3, PloughMaze::new, (x, v) -> x.two(v, 0, BLIND, 0, UP));
        range("18 two: the SQUARE", 0, 35, PloughMaze::new, (x, v) -> x.two(BLIND, v, BLIND, 0, UP));
        range("18 two: the other KIND", 0, 3, PloughMaze::new, (x, v) -> x.two(BLIND, 0, v, 0, UP));
        range("18 two: the other SQUARE", 0, 35, PloughMaze::new, (x, v) -> x.two(BLIND, 0, BLIND, v, UP));
        range("18 two: the SIDE", 0, 3, PloughMaze::new, (x, v) -> x.two(BLIND, 0, BLIND, 0, v));
    }

    /** Corn all around 20, and the middle far off. */
    private static PloughMaze corn(int months) {
        PloughMaze x = crossing(20, 0);
        x.set(0, months);
        return x;
    }

    private static void corn() {
        sentence("1 CORN: until month 2 it stops nobody", () -> {
            for (int months = 0; months <= 2; months++) {
                for (int kind = 0; kind < 4; kind++) {
                    due(kind + " in " + months, corn(months).at(kind, 20, UP, 1), kind == BLIND ? 14 : 19);
                }
                due("far in " + months, corn(months).far(20), 5);
            }
        });
        sentence("1 CORN: from month 3 on it stops all but a CHILD", () -> {
            for (int months = 3; months <= 9; months++) {
                for (int kind : NO_CHILDREN) {
                    due(kind + " in " + months, corn(months).at(kind, 20, UP, 1), 20);
                    due(kind + " in " + months, corn(months).walk(kind, 34, RIGHT), NONE);
                }
                due("far in " + months, corn(months).far(34), NONE);
            }
        });
        sentence("1 CORN: until month 6 it does not stop a CHILD", () -> {
            for (int months = 3; months <= 6; months++) {
                due("in " + months, corn(months).at(CHILD, 20, UP, 1), 19);
            }
        });
        sentence("1 CORN: from month 7 on it stops a CHILD, too", () -> {
            for (int months = 7; months <= 9; months++) {
                due("in " + months, corn(months).at(CHILD, 20, UP, 1), 20);
                due("in " + months, corn(months).walk(CHILD, 34, RIGHT), NONE);
            }
        });
        sentence("1 CORN: a GAP stops nobody, whatever the MONTH", () -> {
            for (int kind = 0; kind < 4; kind++) {
                due("gap for " + kind, crossing(20, 1 << DOWN).at(kind, 20, UP, 1), 26);
            }
        });
        sentence("1 CORN: what is SHUT stops as corn does", () -> {
            for (int months = 0; months <= 9; months++) {
                for (int kind = 0; kind < 4; kind++) {
                    PloughMaze x = crossing(20, 1 << UP | 1 << LEFT);
                    x.set(0, months);
                    x.shut(20, LEFT, true);
                    int to = kind == BLIND || months >= (kind == CHILD ? 7 : 3) ? 14 : 19;
                    due(kind + " in " + months, x.at(kind, 20, UP, 1), to);
                }
            }
        });
        sentence("2 PASSABLE: no SQUARE is beyond the edge, however low the corn", () -> {
            PloughMaze x = corn(0);
            for (int kind = 0; kind < 4; kind++) {
                due("up from 0", x.at(kind, 0, UP, 1), 1);
                due("right from 5", x.at(kind, 5, RIGHT, 1), 11);
                due("left from 30", x.at(kind, 30, LEFT, 1), 24);
                due("down from 30", x.at(kind, 30, DOWN, 1), kind == BLIND ? 24 : 31);
            }
        });
    }

    private static void strawMen() {
        sentence("1 STRAW MEN: beside one nobody but a CHILD goes there by a GAP", () -> {
            for (int kind = 0; kind < 4; kind++) {
                PloughMaze x = crossing(20, 1 << RIGHT);
                x.straw(21, true);
                due("at for " + kind, x.at(kind, 20, RIGHT, 1), kind == CHILD ? 21 : 20);
            }
        });
        sentence("1 STRAW MEN: nor through corn that stops nobody", () -> {
            for (int kind = 0; kind < 4; kind++) {
                PloughMaze x = corn(0);
                x.straw(19, true);
                due("at for " + kind, x.at(kind, 20, LEFT, 1), kind == BLIND ? 14 : 26);
                due("at for " + kind, x.at(kind, 20, UP, 1), kind == CHILD ? 19 : 14);
            }
        });
        sentence("1 STRAW MEN: who begins there may go away, but not back", () -> {
            for (int kind = 0; kind < 4; kind++) {
                PloughMaze x = crossing(20, 1 << RIGHT);
                x.straw(20, true);
                due("away for " + kind, x.at(kind, 20, UP, 1), 21);
                due("back for " + kind, x.at(kind, 20, UP, 2), kind == CHILD ? 20 : 21);
            }
        });
        sentence("1 STRAW MEN: one on the MIDDLE: nobody but a CHILD is ever THERE, but who begins there", () -> {
            for (int kind = 0; kind < 4; kind++) {
                PloughMaze x = ploughed("22r");
                x.straw(14, true);
                due("from beside, " + kind, x.walk(kind, 15, LEFT), kind == CHILD ? 1 : NONE);
                due("on it, " + kind, x.walk(kind, 14, LEFT), 0);
                due("worst of " + kind, x.worst(kind, LEFT, 0), kind == CHILD ? 1 : 0);
                due("two of " + kind, x.two(kind, 15, kind, 15, LEFT), kind == CHILD ? 1 : NONE);
            }
            PloughMaze x = ploughed("22r");
            x.straw(14, true);
            due("far", x.far(15), NONE);
            due("roped", x.roped(15), NONE);
            due("far on it", x.far(14), 0);
            due("roped on it", x.roped(14), 0);
        });
        sentence("1 STRAW MEN: begun on one beside the MIDDLE", () -> {
            PloughMaze x = ploughed("22rr");
            x.straw(15, true);
            for (int kind = 0; kind < 4; kind++) {
                due("walk of " + kind, x.walk(kind, 15, LEFT), 1);
                due("walk of " + kind + " behind it", x.walk(kind, 16, LEFT), kind == CHILD ? 2 : NONE);
            }
            due("far", x.far(15), 1);
            due("far behind it", x.far(16), NONE);
            due("roped", x.roped(15), 1);
        });
    }

    /** Where one goes who takes the first of its looks, facing a side; 20 if there is none. */
    private static int firstLook(int[] looks, int facing, int sides) {
        for (int quarters : looks) {
            int side = turned(facing, quarters);
            if ((sides >> side & 1) != 0) {
                return next(20, side);
            }
        }
        return 20;
    }

    private static void allLooks(int kind, int[] looks) {
        for (int sides = 0; sides < 16; sides++) {
            for (int facing = 0; facing < 4; facing++) {
                String call = "sides " + sides + " facing " + facing;
                due(call, crossing(20, sides).at(kind, 20, facing, 1), firstLook(looks, facing, sides));
            }
        }
    }

    private static void looks() {
        sentence("2 BLIND: on to the SIDE it faces, else the first of its right, back, left", () -> allLooks(BLIND, BLIND_LOOKS));
        sentence("2 BY THE WALL: the first of its left, ahead, right, back", () -> allLooks(WALL, OTHERS_LOOK));
        sentence("2 WITH CHALK: without marks the first of its left, ahead, right, back", () -> allLooks(CHALK, OTHERS_LOOK));
        sentence("2 A CHILD: without marks the first of its left, ahead, right, back", () -> allLooks(CHILD, OTHERS_LOOK));
        sentence("2 BLIND: right of up is right, of right down, of down left, of left up", () -> {
            int[] right = {RIGHT, UP, DOWN, LEFT};
            for (int facing = 0; facing < 4; facing++) {
                PloughMaze x = crossing(20, 15 & ~(1 << facing));
                due("facing " + facing, x.at(BLIND, 20, facing, 1), next(20, right[facing]));
            }
        });
        sentence("2 BLIND: which it faces then", () -> {
            PloughMaze x = crossing(21, 15);
            x.at(BLIND, 20, UP, 1);
            due("to the right, and on", x.at(BLIND, 20, UP, 2), 22);
        });
        sentence("2 BY THE WALL, WITH CHALK, A CHILD: which it faces then", () -> {
            PloughMaze x = crossing(21, 15);
            for (int kind = WALL; kind <= CHILD; kind++) {
                due("to the right, then its left, " + kind, x.at(kind, 20, DOWN, 2), 15);
            }
        });
        sentence("2 WALKERS: who finds no PASSABLE SIDE stays for good", () -> {
            for (int kind = 0; kind < 4; kind++) {
                for (int steps : new int[] {0, 1, 2, 999}) {
                    due("at " + steps, crossing(20, 0).at(kind, 20, UP, steps), 20);
                }
                due("walk", crossing(20, 0).walk(kind, 20, UP), NONE);
            }
        });
    }

    private static void chalk() {
        sentence("2 WITH CHALK: to the fewest marks, of like ones the first of left, ahead, right, back", () -> {
            int[] way = {20, 14, 20, 21, 20, 26, 20, 19, 20, 14, 20, 21, 20, 26};
            for (int kind = CHALK; kind <= CHILD; kind++) {
                PloughMaze x = crossing(20, 15);
                for (int steps = 0; steps < way.length; steps++) {
                    due(kind + " at " + steps, x.at(kind, 20, RIGHT, steps), way[steps]);
                }
            }
        });
        sentence("2 WITH CHALK: a mark on each SQUARE that it leaves, none on the one it comes to", () -> {
            // A ring with a tail: back at 20 by the ring it has left 20 once, and 26 never.
            for (int kind = CHALK; kind <= CHILD; kind++) {
                PloughMaze x = ploughed("32rul");
                x.set(1, 35);
                x.deer(20, DOWN);
                int[] way = {20, 14, 15, 21, 20, 26};
                for (int steps = 0; steps < way.length; steps++) {
                    due(kind + " at " + steps, x.at(kind, 20, RIGHT, steps), way[steps]);
                }
            }
        });
        sentence("2 WITH CHALK: where no other way is it goes back, marks or not", () -> {
            PloughMaze x = crossing(20, 1 << RIGHT);
            for (int steps = 0; steps < 9; steps++) {
                due("at " + steps, x.at(CHALK, 20, UP, steps), steps % 2 == 0 ? 20 : 21);
            }
        });
        sentence("2 WITH CHALK: none at first, at each walk", () -> {
            PloughMaze x = crossing(20, 15);
            due("at", x.at(CHALK, 20, UP, 7), x.at(CHALK, 20, UP, 7));
            x.at(CHALK, 20, UP, 999);
            due("again", x.at(CHALK, 20, UP, 1), 19);
            due("another kind", x.at(CHILD, 20, UP, 1), 19);
        });
        sentence("2 WITH CHALK: no mark is left from one walk to the next, on any SQUARE", () -> {
            for (int square = 0; square < 36; square++) {
                // Two ways part beside the square: a mark left on it would send the next one the other way.
                int to = square >= 6 ? DOWN : UP;
                int other = square % 6 < 5 ? RIGHT : LEFT;
                int from = next(square, 3 - to);
                int facing = turned(to, 1) == other ? to : turned(to, 1);
                PloughMaze x = crossing(from, 1 << to | 1 << other);
                x.set(1, square == 35 ? 0 : 35);
                due("to it and back", x.at(CHALK, from, facing, 2), from);
                due("to it again", x.at(CHALK, from, facing, 1), square);
                due("to it again", x.at(CHILD, from, facing, 1), square);
            }
        });
        sentence("2 A CHILD: as WITH CHALK, where the same stops both", () -> {
            for (int side = 0; side < 4; side++) {
                PloughMaze x = ploughed("00rrrrddddlllluuurrddl");
                x.deer(8, UP);
                x.deer(14, LEFT);
                x.set(1, 35);
                for (int steps = 0; steps < 60; steps++) {
                    due("at " + steps, x.at(CHILD, 8, side, steps), x.at(CHALK, 8, side, steps));
                }
            }
        });
    }

    private static void walk() {
        sentence("2 WALKERS: in 0 STEPS, if they begin on the MIDDLE", () -> {
            PloughMaze x = ploughed("22rr");
            for (int kind = 0; kind < 4; kind++) {
                for (int side = 0; side < 4; side++) {
                    due("walk", x.walk(kind, 14, side), 0);
                    due("at", x.at(kind, 14, side, 999), 14);
                    due("closed in", new PloughMaze().walk(kind, 14, side), 0);
                }
            }
        });
        sentence("13 walk: NEXT to the MIDDLE it is 1", () -> {
            for (int kind = 0; kind < 4; kind++) {
                for (int side = 0; side < 4; side++) {
                    due("walk", ploughed("22r").walk(kind, 15, side), 1);
                }
            }
        });
        sentence("13 walk: NONE: never, as it goes round for good", () -> {
            PloughMaze x = new PloughMaze();
            x.set(0, 0);
            due("blind along the edge", x.walk(BLIND, 0, RIGHT), NONE);
            due("by the edge's wall", x.walk(WALL, 0, RIGHT), NONE);
            due("with chalk it comes there", x.walk(CHALK, 0, RIGHT) > 0 ? 1 : 0, 1);
        });
        sentence("13 walk: NONE: never, though there is a way", () -> {
            PloughMaze x = ploughed("22rrr");
            x.deer(14, LEFT);
            x.deer(15, UP);
            x.set(1, 9);
            due("blind past it", x.walk(BLIND, 13, RIGHT), NONE);
            due("far", x.far(13), 3);
            due("by the wall", x.walk(WALL, 13, RIGHT), 3);
        });
        sentence("13 walk: the longest way there is", () -> {
            PloughMaze x = ploughed(SNAKE);
            x.set(1, 30);
            for (int kind = WALL; kind <= CHILD; kind++) {
                due("all squares", x.walk(kind, 0, UP), 35);
            }
            // At a bend to its left the blind one finds its back before its left.
            due("the blind one turns back", x.walk(BLIND, 0, UP), NONE);
        });
        sentence("13 walk: first to the wrong end, and all the way back", () -> {
            PloughMaze x = ploughed(SNAKE);
            x.set(1, 0);
            for (int kind = WALL; kind <= CHILD; kind++) {
                due("walk", x.walk(kind, 1, RIGHT), 34 + 35);
                due("walk", x.walk(kind, 1, LEFT), 1);
            }
        });
        sentence("14 at: 0 STEPS: where it began", () -> {
            for (int square = 0; square < 36; square++) {
                due("at", ploughed(SNAKE).at(CHALK, square, UP, 0), square);
            }
        });
        sentence("14 at: when it is THERE, it stays", () -> {
            for (int kind = 0; kind < 4; kind++) {
                PloughMaze x = ploughed("20rrrr");
                due("a step before", x.at(kind, 12, RIGHT, 1), 13);
                due("there", x.at(kind, 12, RIGHT, 2), 14);
                due("a step behind", x.at(kind, 12, RIGHT, 3), 14);
                due("999", x.at(kind, 12, RIGHT, 999), 14);
            }
        });
        sentence("14 at: 999 STEPS of one who is never THERE", () -> {
            PloughMaze x = crossing(20, 1 << RIGHT);
            for (int kind = 0; kind < 4; kind++) {
                due("998", x.at(kind, 20, RIGHT, 998), 20);
                due("999", x.at(kind, 20, RIGHT, 999), 21);
            }
        });
    }

    /** A furrow with gaps that are eaten and others that are shut, each told as its square and r or d. */
    private static PloughMaze maze(int[] row, String eaten, String shut) {
        PloughMaze x = new PloughMaze();
        for (int square : row) {
            x.plough(square);
        }
        for (String gap : eaten.split(" ")) {
            x.deer(Integer.parseInt(gap.substring(0, gap.length() - 1)), gap.endsWith("r") ? RIGHT : DOWN);
        }
        for (String gap : shut.split(" ")) {
            x.shut(Integer.parseInt(gap.substring(0, gap.length() - 1)), gap.endsWith("r") ? RIGHT : DOWN, true);
        }
        return x;
    }

    /** One with chalk begins on 8 facing up, beside the middle 14, and comes there in 999 steps. */
    private static PloughMaze late() {
        int[] row = {15, 16, 22, 23, 17, 11, 5, 4, 10, 9, 3, 2, 8, 14, 13, 7, 1, 0, 6, 12, 18, 24, 30, 31, 25, 19, 20, 21,
            27, 26, 32, 33, 34, 28, 29, 35};
        return maze(row, "6r 8r 9d 13d 16r 18r 22d 27r 27d 31r", "2r 5d 12d 13r 17d 18d 26d 29d 32r 33r");
    }

    /** One with chalk begins on 9 facing up, and would come to the middle 14 in 1000 steps. */
    private static PloughMaze tooLate() {
        int[] row = {0, 1, 2, 8, 14, 15, 9, 3, 4, 5, 11, 10, 16, 17, 23, 29, 35, 34, 28, 22, 21, 27, 33, 32, 31, 30, 24, 25,
            26, 20, 19, 18, 12, 6, 7, 13};
        return maze(row, "1d 4d 8r 9r 12r 13d 19d 26r 27r 28r", "2d 3r 5d 8d 12d 20d 21r 32r 34r");
    }

    /** One with chalk begins on 26 facing left, beside the middle 27, and would come there in 1001 steps. */
    private static PloughMaze laterYet() {
        int[] row = {28, 22, 21, 20, 14, 13, 12, 6, 0, 1, 7, 8, 2, 3, 9, 15, 16, 10, 4, 5, 11, 17, 23, 29, 35, 34, 33, 27,
            26, 32, 31, 25, 19, 18, 24, 30};
        PloughMaze x = maze(row, "8r 8d 9r 12d 14d 22r 25r 28d", "1d 2r 15r 20r 27d 29d 31r");
        x.set(1, 27);
        return x;
    }

    private static void mostSteps() {
        sentence("2 A WALK: 999 STEPS at most: who is THERE in the 999th is THERE", () -> {
            for (int kind = CHALK; kind <= CHILD; kind++) {
                due("walk", late().walk(kind, 8, UP), 999);
                due("at", late().at(kind, 8, UP, 998), 8);
                due("at", late().at(kind, 8, UP, 999), 14);
                due("worst", late().worst(kind, UP, 0), 999);
                due("worst", late().worst(kind, UP, 1), 8);
                // 35 alone is beside no gap.
                due("worst", late().worst(kind, UP, 2), 1);
            }
        });
        sentence("2 A WALK: 999 STEPS at most: who would be THERE in the 1000th is never", () -> {
            for (int kind = CHALK; kind <= CHILD; kind++) {
                due("walk", tooLate().walk(kind, 9, UP), NONE);
                due("far", tooLate().far(9), 2);
                due("at 999, beside it", tooLate().at(kind, 9, UP, 999), 15);
                due("walk", laterYet().walk(kind, 26, LEFT), NONE);
                due("far", laterYet().far(26), 1);
                due("at 999", laterYet().at(kind, 26, LEFT, 999) == 27 ? 1 : 0, 0);
            }
        });
        sentence("15 worst: who would be THERE in the 1000th STEP is never", () -> {
            for (int kind = CHALK; kind <= CHILD; kind++) {
                PloughMaze x = tooLate();
                int never = 0;
                for (int square = 0; square < 36; square++) {
                    never += x.walk(kind, square, UP) < 0 ? 1 : 0;
                }
                due("as many as walk tells", x.worst(kind, UP, 2), never);
                due("the steps of another", x.worst(kind, UP, 0) < 999 ? 1 : 0, 1);
                due("the square of another", x.worst(kind, UP, 1) == 9 ? 1 : 0, 0);
            }
        });
        sentence("18 two: there in the 999th STEP of one", () -> {
            for (int kind = CHALK; kind <= CHILD; kind++) {
                due("of the first", late().two(kind, 8, kind, 35, UP), 1997);
                due("of the second", late().two(kind, 35, kind, 8, UP), 1998);
                due("of both", late().two(kind, 8, kind, 8, UP), 1997);
            }
        });
        sentence("18 two: NONE: not in 999 of each", () -> {
            for (int kind = CHALK; kind <= CHILD; kind++) {
                due("the first in its 1000th", tooLate().two(kind, 9, kind, 9, UP), NONE);
                due("both in their 1001st", laterYet().two(kind, 26, kind, 26, LEFT), NONE);
            }
        });
    }

    private static void worst() {
        sentence("15 worst: only the MIDDLE is THERE: 0 STEPS, that SQUARE, 35 never", () -> {
            for (int kind = 0; kind < 4; kind++) {
                PloughMaze x = new PloughMaze();
                x.set(1, 35);
                due("steps", x.worst(kind, DOWN, 0), 0);
                due("square", x.worst(kind, DOWN, 1), 35);
                due("never", x.worst(kind, DOWN, 2), 35);
            }
        });
        sentence("15 worst: of like ones the first SQUARE", () -> {
            PloughMaze x = crossing(20, 15);
            x.set(1, 20);
            for (int kind = 0; kind < 4; kind++) {
                due("steps", x.worst(kind, UP, 0), 1);
                due("square", x.worst(kind, UP, 1), 14);
                due("never", x.worst(kind, UP, 2), 31);
            }
        });
        sentence("15 worst: from all SQUARES THERE: 0 never", () -> {
            PloughMaze x = new PloughMaze();
            x.set(0, 0);
            due("with chalk", x.worst(CHALK, UP, 2), 0);
            due("a child", x.worst(CHILD, UP, 2), 0);
        });
        sentence("15 worst: of all WALKS the most, the first, how many never", () -> {
            for (int kind = 0; kind < 4; kind++) {
                for (int side = 0; side < 4; side++) {
                    PloughMaze x = ploughed("11rrrdddlllurruld");
                    x.deer(7, UP);
                    x.deer(10, UP);
                    x.straw(13, true);
                    int[] worst = {NONE, NONE, 0};
                    for (int square = 0; square < 36; square++) {
                        int steps = x.walk(kind, square, side);
                        worst[2] += steps < 0 ? 1 : 0;
                        if (steps > worst[0]) {
                            worst[0] = steps;
                            worst[1] = square;
                        }
                    }
                    for (int what = 0; what < 3; what++) {
                        due(kind + " " + side + " " + what, x.worst(kind, side, what), worst[what]);
                    }
                }
            }
        });
        sentence("15 worst: of the field as it is now, whatever was asked before", () -> {
            for (int kind = 0; kind < 4; kind++) {
                PloughMaze x = new PloughMaze();
                due("no way yet", x.far(15), NONE);
                due("no way yet", x.worst(kind, LEFT, 0), 0);
                furrow(x, "22rr");
                due("steps", x.worst(kind, LEFT, 0), 2);
                due("square", x.worst(kind, LEFT, 1), 16);
                due("never", x.worst(kind, LEFT, 2), 33);
            }
        });
        sentence("15 worst: who begins on a STRAW MAN counts", () -> {
            PloughMaze x = ploughed("22rr");
            x.straw(15, true);
            due("steps", x.worst(BLIND, LEFT, 0), 1);
            due("square", x.worst(BLIND, LEFT, 1), 15);
            due("never", x.worst(BLIND, LEFT, 2), 34);
        });
    }

    private static void far() {
        sentence("16 far: 0 on the MIDDLE, wherever it is", () -> {
            for (int square = 0; square < 36; square++) {
                PloughMaze x = new PloughMaze();
                x.set(1, square);
                due("far", x.far(square), 0);
                due("roped", x.roped(square), 0);
            }
        });
        sentence("16 far: 1 beside it by a GAP, NONE through corn", () -> {
            PloughMaze x = ploughed("22r");
            due("gap", x.far(15), 1);
            due("corn", x.far(13), NONE);
        });
        sentence("16 far: the fewest by any ways", () -> {
            PloughMaze x = ploughed("00rrddllu");
            due("the one", x.far(0), 4);
            due("the other", x.far(6), 3);
            due("by the last gap", x.far(12), 2);
            x.shut(13, RIGHT, true);
            due("the long one", x.far(13), 7);
        });
        sentence("16 far: of one who is no CHILD", () -> {
            PloughMaze x = ploughed("22rrr");
            x.set(0, 3);
            due("corn", x.far(13), NONE);
            x.straw(16, true);
            due("straw man", x.far(17), NONE);
            due("a child goes there", x.walk(CHILD, 17, LEFT) > 0 ? 1 : 0, 1);
        });
        sentence("16 far: the most there is: 35", () -> {
            PloughMaze x = ploughed(SNAKE);
            x.set(1, 30);
            for (int square = 0; square < 36; square++) {
                due("far", x.far(square), 35 - x.told(square, 0));
            }
        });
        sentence("16 far: low corn: as many as ROWS and COLUMNS are between", () -> {
            PloughMaze x = new PloughMaze();
            x.set(0, 2);
            for (int square = 0; square < 36; square++) {
                int apart = Math.abs(square / 6 - 2) + Math.abs(square % 6 - 2);
                due("far", x.far(square), apart);
                due("roped", x.roped(square), apart);
            }
        });
    }

    private static void roped() {
        sentence("17 roped: through corn once, whatever the MONTH", () -> {
            for (int months = 3; months <= 9; months++) {
                PloughMaze x = ploughed("22rr");
                x.set(0, months);
                due("to the way", x.roped(17), 3);
                due("beside the middle", x.roped(20), 1);
                due("not needed", x.roped(16), 2);
            }
        });
        sentence("17 roped: not twice", () -> {
            for (int months = 3; months <= 9; months++) {
                PloughMaze x = ploughed("22rr");
                x.set(0, months);
                due("two away", x.roped(26), NONE);
                due("corn, a way, corn", x.roped(35), NONE);
            }
            PloughMaze x = ploughed("35dd");
            due("corn at both ends", x.roped(35), NONE);
        });
        sentence("17 roped: in a field of corn: 0 on the MIDDLE, 1 beside it, NONE from all others", () -> {
            PloughMaze x = new PloughMaze();
            for (int square = 0; square < 36; square++) {
                int apart = Math.abs(square / 6 - 2) + Math.abs(square % 6 - 2);
                due("roped " + square, x.roped(square), apart <= 1 ? apart : NONE);
                due("far " + square, x.far(square), apart == 0 ? 0 : NONE);
            }
        });
        sentence("17 roped: once at most: where the GAPS are shorter it is not used", () -> {
            PloughMaze x = ploughed("22rr");
            due("gaps", x.roped(16), x.far(16));
        });
        sentence("17 roped: it makes the way shorter, on any part of it", () -> {
            PloughMaze x = ploughed("00rrrdll");
            x.set(1, 7);
            due("far", x.far(0), 6);
            due("at its end", x.roped(0), 2);
            due("far", x.far(2), 4);
            due("at its beginning", x.roped(2), 2);
            x.set(1, 8);
            due("far", x.far(1), 4);
            due("anywhere", x.roped(1), 2);
            x.shut(1, RIGHT, true);
            due("in its midst alone", x.roped(0), 3);
        });
        sentence("17 roped: on a long way, from each of its SQUARES", () -> {
            PloughMaze x = ploughed(SNAKE);
            x.set(1, 30);
            for (int square = 0; square < 36; square++) {
                // From row to row, where the snake has the whole of both between, corn is 10 steps less.
                int place = x.told(square, 0);
                due("roped " + square, x.roped(square), place <= 24 ? 25 - place : Math.min(place - 23, 35 - place));
            }
        });
        sentence("17 roped: what is SHUT is corn", () -> {
            PloughMaze x = ploughed("22rrr");
            x.shut(15, RIGHT, true);
            due("shut once", x.roped(17), 3);
            due("far", x.far(17), NONE);
            x.shut(14, RIGHT, true);
            due("shut twice", x.roped(17), NONE);
        });
        sentence("17 roped: a STRAW MAN stops it, but who begins there goes away", () -> {
            PloughMaze x = ploughed("22rr");
            x.straw(16, true);
            due("on it", x.roped(16), 2);
            due("behind it", x.roped(17), NONE);
        });
        sentence("17 roped: not beyond the edge", () -> {
            PloughMaze x = ploughed("20rr");
            due("11 is not beside 12", x.roped(11), NONE);
            due("17 is not beside 12", x.roped(17), NONE);
            due("18 is not beside 17", ploughed("22rrr").roped(18), NONE);
        });
    }

    private static void two() {
        sentence("18 two: 0, if one begins there, the first, the second or both", () -> {
            for (int kind = 0; kind < 4; kind++) {
                due("first", new PloughMaze().two(kind, 14, kind, 0, UP), 0);
                due("second", new PloughMaze().two(kind, 0, kind, 14, UP), 0);
                due("both", new PloughMaze().two(kind, 14, kind, 14, UP), 0);
            }
        });
        sentence("18 two: the first one first: it is THERE in odd STEPS, the second one in even", () -> {
            PloughMaze x = ploughed("20rrrr");
            for (int kind = 0; kind < 4; kind++) {
                due("both beside it", x.two(kind, 13, kind, 13, RIGHT), 1);
                due("the first nearer", x.two(kind, 13, kind, 12, RIGHT), 1);
                due("the second nearer", x.two(kind, 12, kind, 13, RIGHT), 2);
                due("both two off", x.two(kind, 12, kind, 12, RIGHT), 3);
            }
        });
        sentence("18 two: who stays for good has a STEP, too", () -> {
            PloughMaze x = ploughed("20rrr");
            for (int kind = 0; kind < 4; kind++) {
                due("the second stays", x.two(kind, 12, kind, 35, RIGHT), 3);
                due("the first stays", x.two(kind, 35, kind, 12, RIGHT), 4);
                due("both stay", x.two(kind, 35, kind, 34, RIGHT), NONE);
            }
        });
        sentence("18 two: the steps of each are those of its WALK", () -> {
            PloughMaze x = ploughed("11rrrdddlllurruld");
            x.deer(7, UP);
            x.deer(10, UP);
            for (int kind = 0; kind < 4; kind++) {
                for (int other = 0; other < 4; other++) {
                    int a = x.walk(kind, 1, LEFT);
                    int b = x.walk(other, 28, LEFT);
                    int first = a < 0 ? MOST : 2 * a - 1;
                    int second = b < 0 ? MOST : 2 * b;
                    int both = Math.min(first, second);
                    due(kind + " and " + other, x.two(kind, 1, other, 28, LEFT), both == MOST ? NONE : both);
                }
            }
        });
        sentence("18 two: marks their own", () -> {
            // The second one comes to 20 behind the first, and takes the first way as that did.
            PloughMaze x = crossing(20, 15);
            x.set(1, 21);
            due("alone", x.walk(CHALK, 26, UP), 6);
            due("the first", x.two(CHALK, 26, CHALK, 26, UP), 11);
            due("the second", x.two(BLIND, 35, CHALK, 26, UP), 12);
            due("a child's", x.two(CHILD, 26, CHALK, 26, UP), 11);
        });
        sentence("18 two: both face the SIDE", () -> {
            PloughMaze x = crossing(20, 15);
            x.set(1, 21);
            due("up: the first goes left", x.two(WALL, 20, BLIND, 35, UP), 9);
            due("right: the second goes on", x.two(BLIND, 35, BLIND, 20, RIGHT), 2);
            due("down: the second goes left", x.two(BLIND, 35, WALL, 20, DOWN), 2);
        });
        sentence("18 two: a STRAW MAN stops the one, a CHILD goes there", () -> {
            PloughMaze x = ploughed("21rrr");
            x.straw(15, true);
            due("the first is stopped", x.two(WALL, 16, WALL, 16, LEFT), NONE);
            due("the second is a child", x.two(WALL, 16, CHILD, 16, LEFT), 4);
            due("the second begins on it", x.two(WALL, 16, WALL, 15, LEFT), 2);
        });
        sentence("18 two: one is in nobody's way", () -> {
            PloughMaze x = ploughed("21rrr");
            due("through him", x.two(BLIND, 16, BLIND, 15, LEFT), 2);
            due("from one square", x.two(BLIND, 16, BLIND, 16, LEFT), 3);
        });
    }

    public static void main(String[] args) {
        numbers();
        corn();
        strawMen();
        looks();
        chalk();
        walk();
        mostSteps();
        worst();
        far();
        roped();
        two();
        end("WalkerSentencesTest");
    }
}
