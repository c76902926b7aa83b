import java.util.function.Supplier;

/** Refusals: of several the first that a call names; what is refused, or only asked, changes nothing, but as told. */
public final class RefusalsTest extends Sentences {

    interface Call {
        int on(PloughMaze x);
    }

    /** Of all that an object keeps something, and an image of another field. */
    private static PloughMaze full() {
        PloughMaze x = withoutTape();
        type(x, " ".repeat(75) + "22r");
        return x;
    }

    private static PloughMaze withoutTape() {
        PloughMaze x = new PloughMaze();
        furrow(x, "33ul");
        x.straw(9, true);
        x.deer(20, DOWN);
        x.shut(1, DOWN, true);
        x.set(0, 4);
        x.set(1, 20);
        x.set(2, 8);
        seen(x, "11r+");
        x.image();
        furrow(x, "00rrddllu");
        for (int i = 0; i < 9; i++) {
            x.deer(24 + i % 6, i < 6 ? DOWN : RIGHT);
        }
        x.shut(35, LEFT, true);
        x.straw(30, true);
        x.set(0, 5);
        x.set(1, 14);
        x.set(2, 2);
        seen(x, "22u+,33d-");
        x.sheet(0, 0, 9);
        x.sheet(1, 1, 36);
        x.sheet(2, 2, 0);
        for (int i = 0; i < 5; i++) {
            x.item(0, 0, i, 20 + i);
            x.item(1, 1, 31 + i, 7 * i);
        }
        return x;
    }

    /** All that can be asked of an object, as a text; each look has one of its own, for some change what they look at. */
    private static String look(Supplier<PloughMaze> maker) {
        StringBuilder text = new StringBuilder();
        lookAtField(maker.get(), text);
        lookAtSeen(maker.get(), text);
        PloughMaze x = maker.get();
        text.append(" image ").append(x.restore());
        lookAtField(x, text);
        x = maker.get();
        x.restore();
        lookAtSeen(x, text);
        lookAtTape(maker, text);
        for (int sheet = 0; sheet < 4; sheet++) {
            lookAtSheet(maker, sheet, text);
        }
        return text.toString();
    }

    private static void lookAtField(PloughMaze x, StringBuilder text) {
        text.append(" field");
        for (int square = 0; square < 36; square++) {
            text.append(' ').append(x.told(square, 0)).append('/').append(x.told(square, 1)).append('/').append(x.told(square, 2));
        }
        for (int what = 0; what <= 6; what++) {
            text.append(" count ").append(x.count(what));
        }
        text.append(" set ").append(x.set(0, 9)).append(' ').append(x.set(1, 0)).append(' ').append(x.set(2, 0));
        for (int square = 0; square < 36; square++) {
            for (int side = RIGHT; side <= DOWN; side++) {
                text.append(' ').append(x.deer(square, side)).append('/').append(x.shut(square, side, true));
            }
        }
    }

    private static void lookAtSeen(PloughMaze x, StringBuilder text) {
        text.append(" seen ").append(x.count(6));
        for (int square = 0; square < 36; square++) {
            text.append(' ').append(x.fit(square, 2, -1)).append('/').append(x.fit(square, 3, -1)).append('/').append(x.fit(square, 5, -1));
        }
    }

    private static void lookAtTape(Supplier<PloughMaze> maker, StringBuilder text) {
        text.append(" tape ").append(maker.get().type(' ', 1)).append(' ').append(maker.get().seen());
        PloughMaze x = maker.get();
        text.append(' ').append(x.furrow());
        for (int square = 0; square < 36; square++) {
            text.append(' ').append(x.told(square, 0));
        }
    }

    private static void lookAtSheet(Supplier<PloughMaze> maker, int sheet, StringBuilder text) {
        int size = maker.get().drop(sheet);
        text.append(" sheet ").append(size);
        for (int lane = 0; lane < 3; lane++) {
            text.append(' ').append(maker.get().item(sheet, lane, -1, 0));
        }
        for (int i = 0; i < size; i++) {
            PloughMaze x = maker.get();
            for (int lane = 0; lane < 3; lane++) {
                text.append(' ').append(x.go(sheet, lane, i, 1));
            }
            for (int square = 0; square < 36; square++) {
                text.append(x.told(square, 0) == 0 ? "=" + square : "");
            }
        }
    }

    private static void unchanged(String name, Supplier<PloughMaze> maker, int answer, Call call) {
        due(name, call.on(maker.get()), answer);
        due("behind " + name, look(() -> {
            PloughMaze x = maker.get();
            call.on(x);
            return x;
        }), look(maker));
    }

    /** Of an object with all, and if the answer there is the same of a new one: nothing is changed. */
    private static void refused(String name, int answer, Call call) {
        sentence("what is refused changes nothing: " + name, () -> {
            unchanged(name, RefusalsTest::full, answer, call);
            if (answer == BAD || answer == SIZE) {
                unchanged("of a new object " + name, PloughMaze::new, answer, call);
            }
        });
    }

    private static void asked(String name, Call call) {
        sentence("what is only asked changes nothing: " + name, () -> {
            unchanged(name, RefusalsTest::full, call.on(full()), call);
            unchanged("of a new object " + name, PloughMaze::new, call.on(new PloughMaze()), call);
        });
    }

    private static void first(String name, int answer, Supplier<PloughMaze> maker, Call call) {
        sentence("of several refusals the first: " + name, () -> due(name, call.on(maker.get()), answer));
    }

    private static void fieldIsUnchanged() {
        refused("plough(-1)", BAD, x -> x.plough(-1));
        refused("plough(36)", BAD, x -> x.plough(36));
        refused("plough of one ploughed", NOT, x -> x.plough(0));
        refused("plough of one not next", NOT, x -> x.plough(35));
        refused("back(0)", BAD, x -> x.back(0));
        refused("back(37)", BAD, x -> x.back(37));
        refused("back of more than it has", NOT, x -> x.back(9));
        refused("deer(36, 0)", BAD, x -> x.deer(36, UP));
        refused("deer(0, 4)", BAD, x -> x.deer(0, 4));
        refused("deer beyond the edge", NOT, x -> x.deer(5, RIGHT));
        refused("deer where they ate", NOT, x -> x.deer(26, UP));
        refused("deer once more than 10", FULL, x -> x.deer(0, RIGHT));
        refused("shut(36, 0, true)", BAD, x -> x.shut(36, UP, true));
        refused("shut(0, 4, true)", BAD, x -> x.shut(0, 4, true));
        refused("shut beyond the edge", NOT, x -> x.shut(5, RIGHT, true));
        refused("open beyond the edge", NOT, x -> x.shut(35, DOWN, false));
        refused("straw(36, true)", BAD, x -> x.straw(36, true));
        refused("straw(-1, false)", BAD, x -> x.straw(-1, false));
        refused("set(3, 0)", BAD, x -> x.set(3, 0));
        refused("set(0, 10)", BAD, x -> x.set(0, 10));
        refused("set(1, 36)", BAD, x -> x.set(1, 36));
        refused("set(2, -1)", BAD, x -> x.set(2, -1));
        refused("told(36, 0)", BAD, x -> x.told(36, 0));
        refused("told(0, 3)", BAD, x -> x.told(0, 3));
        refused("told of one not ploughed", NONE, x -> x.told(35, 0));
        refused("type(65, 0)", BAD, x -> x.type(65, 0));
        refused("type(65, 9)", BAD, x -> x.type(65, 9));
        refused("type of a wrong byte behind a right one", BAD, x -> x.type('u' << 8 | 127, 2));
        refused("type of a wrong byte ahead of a right one", BAD, x -> x.type(31 << 8 | 'u', 2));
        refused("type of three where two have a place", FULL, x -> x.type('u' << 16 | 'u' << 8 | 'u', 3));
        refused("count(7)", BAD, x -> x.count(7));
    }

    private static void walkersAreUnchanged() {
        refused("walk(4, 0, 0)", BAD, x -> x.walk(4, 0, UP));
        refused("walk that is never there", NONE, x -> x.walk(BLIND, 9, UP));
        refused("at(0, 0, 0, 1000)", BAD, x -> x.at(BLIND, 0, UP, 1000));
        refused("worst(0, 0, 3)", BAD, x -> x.worst(BLIND, UP, 3));
        refused("far(36)", BAD, x -> x.far(36));
        refused("far without a way", NONE, x -> x.far(9));
        refused("roped(36)", BAD, x -> x.roped(36));
        refused("roped without a way", NONE, x -> x.roped(4));
        refused("two(0, 0, 0, 0, 4)", BAD, x -> x.two(BLIND, 0, BLIND, 0, 4));
        refused("two who are never there", NONE, x -> x.two(BLIND, 9, WALL, 10, UP));
        refused("shutting(3)", BAD, x -> x.shutting(3));
        refused("days(0)", BAD, x -> x.days(0));
        refused("days(21)", BAD, x -> x.days(21));
        refused("bell(36)", BAD, x -> x.bell(36));
        refused("fit(0, 10, -1)", BAD, x -> x.fit(0, 10, -1));
        refused("fit(0, 4, 4)", BAD, x -> x.fit(0, 4, 4));
        refused("fit without a hardest", NONE, x -> x.fit(0, 4, 0));
        sentence("what is refused changes nothing: restore without an image", () ->
            unchanged("restore", PloughMaze::new, NONE, PloughMaze::restore));
        sentence("what is refused changes nothing: shutting and days without a gap", () -> {
            unchanged("shutting", PloughMaze::new, NONE, x -> x.shutting(0));
            unchanged("days", PloughMaze::new, 0, x -> x.days(20));
        });
    }

    private static void sheetsAreUnchanged() {
        refused("go(4, 0, 0, 1)", BAD, x -> x.go(4, 0, 0, 1));
        refused("go(0, 3, 0, 1)", BAD, x -> x.go(0, 3, 0, 1));
        refused("go(0, 0, 0, 0)", BAD, x -> x.go(0, 0, 0, 0));
        refused("go(0, 0, 0, 37)", BAD, x -> x.go(0, 0, 0, 37));
        refused("go of nothing", NULL, x -> x.go(3, 0, 0, 1));
        refused("go of another lane", CAST, x -> x.go(0, 1, 0, 1));
        refused("go behind the last", INDEX, x -> x.go(0, 0, 4, 6));
        refused("go of one not next", NOT, x -> x.go(0, 0, 0, 6));
        refused("go of one that comes twice", NOT, x -> x.go(1, 1, 0, 2));
        refused("sheet(4, 0, 1)", BAD, x -> x.sheet(4, 0, 1));
        refused("sheet(0, 3, 1)", BAD, x -> x.sheet(0, 3, 1));
        refused("sheet(0, 0, 37)", BAD, x -> x.sheet(0, 0, 37));
        refused("sheet(0, 1, -1)", SIZE, x -> x.sheet(0, 1, -1));
        refused("drop(4)", BAD, x -> x.drop(4));
        refused("drop of nothing", NULL, x -> x.drop(3));
        refused("item(4, 0, 0, 0)", BAD, x -> x.item(4, 0, 0, 0));
        refused("item(0, 3, 0, 0)", BAD, x -> x.item(0, 3, 0, 0));
        refused("item of nothing", NULL, x -> x.item(3, 0, 0, 0));
        refused("item of another lane", CAST, x -> x.item(0, 1, 0, 0));
        refused("item behind the last", INDEX, x -> x.item(0, 0, 9, 0));
        refused("film(4, 0, 0)", BAD, x -> x.film(4, 0, 0));
        refused("film(0, 3, 0)", BAD, x -> x.film(0, 3, 0));
        refused("film of nothing", NULL, x -> x.film(3, 0, 0));
        refused("film of another lane", CAST, x -> x.film(1, 0, 0));
        refused("film behind the last", INDEX, x -> x.film(1, 1, 1));
        refused("film in too few", INDEX, x -> x.film(0, 0, 0));
    }

    private static void faultsChangeTheTapeAlone() {
        for (String text : new String[] {"", " ", "6", "0", "00x", "00rrru", "00rdlu"}) {
            sentence("a FAULT of furrow: only THE TAPE is empty then: '" + text + "'", () -> {
                due("a fault", furrow(withoutTape(), text) <= -20 ? 1 : 0, 1);
                due("behind it", look(() -> {
                    PloughMaze x = withoutTape();
                    furrow(x, text);
                    return x;
                }), look(RefusalsTest::withoutTape));
            });
        }
        for (String text : new String[] {"", " ", "6", "00r+,", "00r+,01r-,02r", "00r+,01l-", "55d+"}) {
            sentence("a FAULT of seen: only THE TAPE is empty then: '" + text + "'", () -> {
                due("a fault", seen(withoutTape(), text) <= -20 ? 1 : 0, 1);
                due("behind it", look(() -> {
                    PloughMaze x = withoutTape();
                    seen(x, text);
                    return x;
                }), look(RefusalsTest::withoutTape));
            });
        }
    }

    private static void askingChangesNothing() {
        asked("told", x -> x.told(0, 0) + x.told(0, 1) + x.told(0, 2));
        asked("count", x -> x.count(0) + x.count(1) + x.count(2) + x.count(3) + x.count(4) + x.count(5) + x.count(6));
        for (int kind = 0; kind < 4; kind++) {
            int k = kind;
            asked("walk of " + k, x -> x.walk(k, 0, UP));
            asked("at of " + k, x -> x.at(k, 0, UP, 999));
            asked("worst of " + k, x -> x.worst(k, UP, 0));
            asked("two of " + k, x -> x.two(k, 0, k, 1, UP));
        }
        asked("far", x -> x.far(0));
        asked("roped", x -> x.roped(15));
        asked("parts", x -> x.parts());
        asked("shutting", x -> x.shutting(0) + x.shutting(1) + x.shutting(2));
        asked("bell", x -> x.bell(0));
        asked("fit", x -> x.fit(14, 5, -1) + x.fit(14, 5, -2) + x.fit(14, 5, 0));
    }

    private static void changes(String name, Call call) {
        sentence("what is looked at tells of " + name, () -> {
            String behind = look(() -> {
                PloughMaze x = full();
                call.on(x);
                return x;
            });
            due("it is taken", call.on(full()) >= 0 ? 1 : 0, 1);
            due("it is seen", behind.equals(look(RefusalsTest::full)) ? 0 : 1, 1);
        });
    }

    /** A look that told nothing would find everything unchanged. */
    private static void theLookTells() {
        changes("back", x -> x.back(1));
        changes("deer", x -> x.restore() + x.deer(0, RIGHT));
        changes("shut", x -> x.shut(10, RIGHT, true));
        changes("open", x -> x.shut(35, LEFT, false));
        changes("straw", x -> x.straw(0, true));
        changes("months", x -> x.set(0, 6));
        changes("middle", x -> x.set(1, 15));
        changes("door", x -> x.set(2, 8));
        changes("type", x -> x.type(' ', 1));
        changes("furrow", x -> x.furrow());
        changes("days", x -> x.days(1));
        changes("image", x -> x.image());
        changes("restore", x -> x.restore());
        changes("go", x -> x.go(0, 0, 0, 4));
        changes("sheet", x -> x.sheet(3, 0, 0));
        changes("drop", x -> x.drop(2));
        changes("item", x -> x.item(0, 0, 8, 1));
        changes("film", x -> x.film(1, 1, 0));
    }

    private static void firstOfTheField() {
        first("back: BAD ahead of NOT", BAD, PloughMaze::new, x -> x.back(37));
        first("plough: BAD ahead of NOT", BAD, RefusalsTest::full, x -> x.plough(-1));
        first("deer: BAD ahead of NOT: side", BAD, RefusalsTest::full, x -> x.deer(0, -1));
        first("deer: BAD ahead of FULL: square", BAD, RefusalsTest::full, x -> x.deer(-1, RIGHT));
        first("deer: BAD ahead of FULL: side", BAD, RefusalsTest::full, x -> x.deer(7, 4));
        first("deer: NOT ahead of FULL: no square", NOT, RefusalsTest::full, x -> x.deer(0, UP));
        first("deer: NOT ahead of FULL: they ate there", NOT, RefusalsTest::full, x -> x.deer(20, DOWN));
        first("deer: FULL", FULL, RefusalsTest::full, x -> x.deer(7, RIGHT));
        first("shut: BAD ahead of NOT", BAD, PloughMaze::new, x -> x.shut(0, 4, true));
        first("told: BAD ahead of NONE", BAD, PloughMaze::new, x -> x.told(36, 0));
        first("type: BAD ahead of FULL: n", BAD, RefusalsTest::full, x -> x.type(0x2020202020202020L, 9));
        first("type: BAD ahead of FULL: a byte", BAD, RefusalsTest::full, x -> x.type(0x20201FL, 3));
        first("type: FULL", FULL, RefusalsTest::full, x -> x.type(0x202020L, 3));
    }

    private static void firstOfTheWalkers() {
        first("walk: BAD ahead of NONE: kind", BAD, PloughMaze::new, x -> x.walk(4, 0, UP));
        first("walk: BAD ahead of NONE: side", BAD, PloughMaze::new, x -> x.walk(0, 0, 4));
        first("walk: BAD ahead of 0: kind", BAD, PloughMaze::new, x -> x.walk(4, 14, UP));
        first("walk: BAD ahead of 0: side", BAD, PloughMaze::new, x -> x.walk(0, 14, -1));
        first("at: BAD, on the middle, too", BAD, PloughMaze::new, x -> x.at(0, 14, 4, 0));
        first("far: BAD ahead of NONE", BAD, PloughMaze::new, x -> x.far(-1));
        first("roped: BAD ahead of NONE", BAD, PloughMaze::new, x -> x.roped(-1));
        first("two: BAD ahead of 0: kind", BAD, PloughMaze::new, x -> x.two(4, 14, 0, 14, UP));
        first("two: BAD ahead of 0: square", BAD, PloughMaze::new, x -> x.two(0, 36, 0, 14, UP));
        first("two: BAD ahead of 0: other", BAD, PloughMaze::new, x -> x.two(0, 14, -1, 14, UP));
        first("two: BAD ahead of 0: square2", BAD, PloughMaze::new, x -> x.two(0, 14, 0, -1, UP));
        first("two: BAD ahead of 0: side", BAD, PloughMaze::new, x -> x.two(0, 14, 0, 14, 4));
        first("shutting: BAD ahead of NONE", BAD, PloughMaze::new, x -> x.shutting(3));
        first("days: BAD, if there is none to shut, too", BAD, PloughMaze::new, x -> x.days(21));
        first("fit: BAD ahead of NONE: square", BAD, PloughMaze::new, x -> x.fit(36, 2, -2));
        first("fit: BAD ahead of NONE: many", BAD, PloughMaze::new, x -> x.fit(0, 1, 0));
        first("fit: BAD ahead of NONE: k", BAD, PloughMaze::new, x -> x.fit(0, 2, 2));
        first("fit: BAD, k behind many", BAD, PloughMaze::new, x -> x.fit(14, 2, 8));
    }

    private static void firstOfTheSheets() {
        first("go: BAD ahead of NULL: n", BAD, PloughMaze::new, x -> x.go(0, 0, -1, 0));
        first("go: BAD ahead of NULL: lane", BAD, PloughMaze::new, x -> x.go(0, 3, 0, 1));
        first("go: BAD ahead of CAST", BAD, RefusalsTest::full, x -> x.go(0, 1, 0, 37));
        first("go: NULL ahead of INDEX", NULL, PloughMaze::new, x -> x.go(0, 0, -1, 36));
        first("go: CAST ahead of INDEX", CAST, RefusalsTest::full, x -> x.go(0, 1, 9, 1));
        first("go: CAST ahead of INDEX, of 0 items", CAST, RefusalsTest::full, x -> x.go(2, 0, 0, 1));
        first("go: INDEX ahead of NOT", INDEX, RefusalsTest::full, x -> x.go(0, 0, 3, 7));
        first("go: NOT", NOT, RefusalsTest::full, x -> x.go(0, 0, 3, 6));
        first("sheet: BAD ahead of SIZE: sheet", BAD, PloughMaze::new, x -> x.sheet(4, 0, -1));
        first("sheet: BAD ahead of SIZE: lane", BAD, PloughMaze::new, x -> x.sheet(0, -1, -1));
        first("item: BAD ahead of NULL", BAD, PloughMaze::new, x -> x.item(0, 3, 0, 0));
        first("item: BAD ahead of CAST, INDEX", BAD, RefusalsTest::full, x -> x.item(0, -1, 9, 0));
        first("item: NULL ahead of INDEX", NULL, PloughMaze::new, x -> x.item(0, 0, -1, 0));
        first("item: CAST ahead of INDEX", CAST, RefusalsTest::full, x -> x.item(0, 1, 9, 0));
        first("item: INDEX", INDEX, RefusalsTest::full, x -> x.item(2, 2, 0, 0));
        first("film: BAD ahead of NULL", BAD, PloughMaze::new, x -> x.film(0, 3, 0));
        first("film: NULL ahead of INDEX", NULL, PloughMaze::new, x -> x.film(0, 0, 1));
        first("film: CAST ahead of INDEX", CAST, RefusalsTest::full, x -> x.film(0, 1, 0));
        first("film: INDEX", INDEX, RefusalsTest::full, x -> x.film(0, 0, 0));
    }

    public static void main(String[] args) {
        theLookTells();
        fieldIsUnchanged();
        walkersAreUnchanged();
        sheetsAreUnchanged();
        faultsChangeTheTapeAlone();
        askingChangesNothing();
        firstOfTheField();
        firstOfTheWalkers();
        firstOfTheSheets();
        end("RefusalsTest");
    }
}
