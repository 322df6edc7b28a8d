import java.math.BigInteger;
import java.util.ArrayList;
import java.util.Arrays;
import java.util.List;
import java.util.Set;
import java.util.TreeSet;
import java.util.function.Supplier;
import java.util.function.ToLongFunction;

/**
 * Every sentence of the document that names a boundary case (too small, too large, empty, full, a wrap-around,
 * a refused call), each with a test of its own. A test begins with the promise and the words it stands for.
 */
public final class EdgesTest {
    private static final int NONE = -1, BAD = -2, NO = -3, FULL = -4, NOT_SO_MANY = -5, BAD_ASKED = -10;
    private static final int WALL = 0, SHADE = 1, SPOON = 2, GOAT = 3, WIFE = 4, CHILD = 5;
    private static final int PLAIN = 0, OLD = 1, LAMP = 2, GENTLE = 3, DEAF = 4, QUICK = 5;
    private static final int LEAST = Integer.MIN_VALUE, MOST = Integer.MAX_VALUE;
    /** Numbers that stand in no range of the document. */
    private static final int[] FAR = {LEAST, LEAST + 1, -65536, -100, 1000000, 1 << 30, MOST - 1, MOST};

    private static final Set<Integer> promises = new TreeSet<>();
    private static int promise = 0;
    private static String words = "";
    private static int wrong = 0;

    // ---- what is due

    private static void says(int number, String sentence) {
        promise = number;
        words = sentence;
        promises.add(number);
    }

    private static void due(String call, long got, long want) {
        if (got != want) {
            wrong++;
            System.out.println("promise " + promise + " (" + words + "): " + call + " answered " + got + ", due is " + want);
        }
    }

    /** A call that is refused: its answer, one more in its STATUS alone, and nothing else changed. */
    private static void refused(int reason, long answer, Supplier<SlateHills> made, String call,
            ToLongFunction<SlateHills> asked) {
        SlateHills x = made.get();
        int[] before = {x.status(0), x.status(1), x.status(2)};
        due(call, asked.applyAsLong(x), answer);
        for (int r = 0; r < before.length; r++) {
            due("status(" + r + ") behind " + call, x.status(r) - before[r], r == BAD - reason ? 1 : 0);
        }
        dueSame("all behind " + call, x, made.get());
    }

    private static void bad(Supplier<SlateHills> made, String call, ToLongFunction<SlateHills> asked) {
        refused(BAD, BAD, made, call, asked);
    }

    /** A call that only tells: its answer, and nothing changed, STATUS neither. */
    private static void told(long answer, Supplier<SlateHills> made, String call, ToLongFunction<SlateHills> asked) {
        SlateHills x = made.get();
        int[] before = {x.status(0), x.status(1), x.status(2)};
        due(call, asked.applyAsLong(x), answer);
        for (int r = 0; r < before.length; r++) {
            due("status(" + r + ") behind " + call, x.status(r), before[r]);
        }
        dueSame("all behind " + call, x, made.get());
    }

    private static void dueSame(String what, SlateHills x, SlateHills y) {
        due(what + " stays", unravel(x).equals(unravel(y)) ? 1 : 0, 1);
    }

    /** All that an object holds but STATUS, as its calls tell it; the object is used up by it. */
    private static List<Long> unravel(SlateHills x) {
        List<Long> all = new ArrayList<>(List.of(x.part(0), x.part(1)));
        unravelSteps(x, all);
        all.add((long) x.read());
        all.add(x.digest());
        for (int i = 0; i < 2; i++) {
            int kept = x.from(i);
            all.add((long) kept);
            if (kept == 1) {
                unravelSteps(x, all);
            }
        }
        return all;
    }

    private static void unravelSteps(SlateHills x, List<Long> all) {
        all.add(x.digest());
        for (int n = x.count(8); n > 0; n--) {
            all.add((long) x.undo());
            all.add(x.digest());
        }
    }

    // ---- islands

    private static SlateHills on(int clerk, int... hills) {
        SlateHills x = new SlateHills();
        x.island(clerk);
        raise(x, hills);
        return x;
    }

    private static SlateHills onDay(int day, int clerk, int... hills) {
        SlateHills x = on(clerk);
        idle(x, day);
        raise(x, hills);
        return x;
    }

    private static void raise(SlateHills x, int... hills) {
        for (int i = 0; i + 2 < hills.length; i += 3) {
            x.hill(hills[i], hills[i + 1], hills[i + 2]);
        }
    }

    private static void idle(SlateHills x, int days) {
        for (int d = 0; d < days; d++) {
            x.day(7);
        }
    }

    private static SlateHills write(SlateHills x, String text) {
        x.clear();
        for (int i = 0; i < text.length(); i++) {
            x.type(text.charAt(i));
        }
        return x;
    }

    /** An island with something of everything: steps to undo, both images, a text, a fraction, seen ones, marks. */
    private static SlateHills rich() {
        SlateHills x = on(PLAIN, WALL, 4, 56, GOAT, 9, 30);
        x.chance(2, 1, 3);
        x.seen(1, 2, 3, 7);
        x.mark(7, 7, 8);
        x.day(7);
        x.putBack(5, 3);
        x.image(1);
        x.clerk(GENTLE);
        x.hill(CHILD, 15, 59);
        x.vines(3, 9);
        x.mark(8, 8, 8);
        x.day(0);
        x.image(0);
        x.seen(2, 5, 6, 6);
        x.day(7);
        x.putBack(6, 9);
        return write(x, "island 5;hill 3 2 1;day 0 7;");
    }

    private static SlateHills sevenHills() {
        return on(PLAIN, WALL, 0, 0, SHADE, 3, 1, SPOON, 6, 2, GOAT, 9, 3, WIFE, 12, 4, CHILD, 15, 5, WALL, 19, 6);
    }

    private static SlateHills oneWall(int size) {
        return on(PLAIN, WALL, 10, size);
    }

    // ---- promise 1, and what is told at first

    private static void newObject() {
        says(1, "VINEYARDS (0 .. 9; 1 each at first)");
        SlateHills x = new SlateHills();
        for (int c = 0; c < 20; c++) {
            due("has(" + c + ")", x.has(c), 1);
        }
        due("count(1)", x.count(1), 20);
        says(1, "As told; no HILLS.");
        int[] counts = {0, 20, 0, 0, 0, 0, 0, 0, 0, 0};
        for (int what = 0; what < counts.length; what++) {
            due("count(" + what + ")", x.count(what), counts[what]);
        }
        due("day(0)", new SlateHills().day(0), BAD);
        says(1, "THE FRACTION is 0 by 1 at first");
        due("part(0)", x.part(0), 0);
        due("part(1)", x.part(1), 1);
        says(1, "STATUS: how many calls were refused");
        for (int r = 0; r < 3; r++) {
            due("status(" + r + ")", x.status(r), 0);
        }
        says(1, "DAYS have numbers, 0 at first: the first DAY is 1");
        due("of(0, 3) of a CHILD", on(PLAIN, CHILD, 3, 0).of(0, 3), 0);
        due("day(7)", x.day(7), 0);
        due("count(3)", x.count(3), 1);
        says(1, "THE CLERK has a KIND (0 at first)");
        SlateHills plain = new SlateHills();
        plain.hill(WALL, 0, 59);
        due("of(0, 4)", plain.of(0, 4), 8);
        due("clerk(5)", plain.clerk(5), 0);
    }

    private static void numbersFarOut() {
        says(1, "BAD -2 a number is not as told: far out");
        for (int v : FAR) {
            bad(EdgesTest::rich, "island(" + v + ")", x -> x.island(v));
            bad(EdgesTest::rich, "clerk(" + v + ")", x -> x.clerk(v));
            bad(EdgesTest::rich, "vines(" + v + ", 0)", x -> x.vines(v, 0));
            bad(EdgesTest::rich, "vines(0, " + v + ")", x -> x.vines(0, v));
            bad(EdgesTest::rich, "hill(" + v + ", 0, 0)", x -> x.hill(v, 0, 0));
            bad(EdgesTest::rich, "hill(0, " + v + ", 0)", x -> x.hill(0, v, 0));
            bad(EdgesTest::rich, "hill(0, 0, " + v + ")", x -> x.hill(0, 0, v));
            bad(EdgesTest::rich, "type(" + v + ")", x -> x.type(v));
            bad(EdgesTest::rich, "day(" + v + ")", x -> x.day(v));
            bad(EdgesTest::rich, "putBack(" + v + ", 1)", x -> x.putBack(v, 1));
            bad(EdgesTest::rich, "putBack(0, " + v + ")", x -> x.putBack(0, v));
            bad(EdgesTest::rich, "of(" + v + ", 0)", x -> x.of(v, 0));
            bad(EdgesTest::rich, "of(0, " + v + ")", x -> x.of(0, v));
            bad(EdgesTest::rich, "has(" + v + ")", x -> x.has(v));
            bad(EdgesTest::rich, "high(" + v + ", 0)", x -> x.high(v, 0));
            bad(EdgesTest::rich, "high(0, " + v + ")", x -> x.high(0, v));
            bad(EdgesTest::rich, "goes(" + v + ")", x -> x.goes(v));
            bad(EdgesTest::rich, "lost(" + v + ")", x -> x.lost(v));
            bad(EdgesTest::rich, "chain(" + v + ")", x -> x.chain(v));
            refused(BAD, BAD_ASKED, EdgesTest::rich, "plan(" + v + ", 0)", x -> x.plan(v, 0));
            bad(EdgesTest::rich, "askFirst(" + v + ", 0)", x -> x.askFirst(v, 0));
            bad(EdgesTest::rich, "askFirst(1, " + v + ")", x -> x.askFirst(1, v));
            bad(EdgesTest::rich, "calm(" + v + ", 0)", x -> x.calm(v, 0));
            bad(EdgesTest::rich, "calm(1, " + v + ")", x -> x.calm(1, v));
            farOutBelow(v);
        }
    }

    private static void farOutBelow(int v) {
        bad(EdgesTest::rich, "seen(" + v + ", 0, 0, 0)", x -> x.seen(v, 0, 0, 0));
        bad(EdgesTest::rich, "seen(0, " + v + ", 0, 0)", x -> x.seen(0, v, 0, 0));
        bad(EdgesTest::rich, "seen(0, 0, " + v + ", 0)", x -> x.seen(0, 0, v, 0));
        bad(EdgesTest::rich, "seen(0, 0, 0, " + v + ")", x -> x.seen(0, 0, 0, v));
        bad(EdgesTest::rich, "which(" + v + ")", x -> x.which(v));
        bad(EdgesTest::rich, "next(" + v + ")", x -> x.next(v));
        bad(EdgesTest::rich, "mark(" + v + ", 0, 0)", x -> x.mark(v, 0, 0));
        bad(EdgesTest::rich, "mark(0, " + v + ", 0)", x -> x.mark(0, v, 0));
        bad(EdgesTest::rich, "mark(0, 0, " + v + ")", x -> x.mark(0, 0, v));
        bad(EdgesTest::rich, "forget(" + v + ")", x -> x.forget(v));
        bad(EdgesTest::rich, "chance(" + v + ", 0, 0)", x -> x.chance(v, 0, 0));
        bad(EdgesTest::rich, "chance(0, " + v + ", 0)", x -> x.chance(0, v, 0));
        bad(EdgesTest::rich, "chance(0, 0, " + v + ")", x -> x.chance(0, 0, v));
        bad(EdgesTest::rich, "years(" + v + ", 0)", x -> x.years(v, 0));
        bad(EdgesTest::rich, "years(0, " + v + ")", x -> x.years(0, v));
        bad(EdgesTest::rich, "part(" + v + ")", x -> x.part(v));
        bad(EdgesTest::rich, "image(" + v + ")", x -> x.image(v));
        bad(EdgesTest::rich, "from(" + v + ")", x -> x.from(v));
        refused(BAD, NONE, EdgesTest::rich, "status(" + v + ")", x -> x.status(v));
        bad(EdgesTest::rich, "count(" + v + ")", x -> x.count(v));
        if (v < 0) {
            refused(BAD, BAD_ASKED, EdgesTest::rich, "plan(1, " + v + ")", x -> x.plan(1, v));
            refused(BAD, BAD_ASKED, EdgesTest::rich, "waiting(" + v + ")", x -> x.waiting(v));
        } else {
            told(NOT_SO_MANY, EdgesTest::rich, "plan(1, " + v + ")", x -> x.plan(1, v));
            told(NOT_SO_MANY, EdgesTest::rich, "waiting(" + v + ")", x -> x.waiting(v));
        }
    }

    // ---- promises 2 to 5: an island

    private static void island() {
        says(2, "KINDS of CLERKS 0 .. 5. BAD.");
        bad(EdgesTest::rich, "island(-1)", x -> x.island(-1));
        bad(EdgesTest::rich, "island(6)", x -> x.island(6));
        for (int kind = 0; kind <= 5; kind++) {
            SlateHills x = new SlateHills();
            due("island(" + kind + ")", x.island(kind), 0);
            due("count(5)", x.count(5), kind);
        }
        says(2, "how many HILLS there were");
        due("island(0) of a new object", new SlateHills().island(0), 0);
        SlateHills full = sevenHills();
        due("island(0) of seven", full.island(0), 7);
        due("island(0) again", full.island(0), 0);
        says(2, "all else as at first (but for IMAGES, THE TEXT, THE FRACTION, STATUS)");
        SlateHills x = rich();
        x.count(10);
        x.island(LAMP);
        int[] counts = {0, 20, 0, 0, 0, LAMP, 0, 0, 0, 28};
        for (int what = 0; what < counts.length; what++) {
            due("count(" + what + ")", x.count(what), counts[what]);
        }
        due("undo()", x.undo(), NO);
        due("part(0)", x.part(0), 49);
        due("part(1)", x.part(1), 100);
        due("status(0)", x.status(0), 1);
        due("from(1)", x.from(1), 1);
        due("count(0) from the image", x.count(0), 2);
        due("from(0)", x.from(0), 1);
        due("count(0) from the other", x.count(0), 3);
        due("read()", x.read(), 3);
        says(2, "all else as at first: a HILL, SEEN, MARKS begin anew");
        SlateHills anew = sevenHills();
        anew.seen(0, 0, 0, 99);
        anew.mark(0, 0, 40);
        anew.island(0);
        due("hill(0, 0, 59)", anew.hill(0, 0, 59), 0);
        due("which(0)", anew.which(0), 63);
        due("kinds()", anew.kinds(), 63);
        due("of(1, 0)", anew.of(1, 0), BAD);
    }

    private static void clerk() {
        says(3, "THE CLERK's KIND: what it was. BAD.");
        bad(EdgesTest::rich, "clerk(-1)", x -> x.clerk(-1));
        bad(EdgesTest::rich, "clerk(6)", x -> x.clerk(6));
        SlateHills x = new SlateHills();
        for (int kind = 0; kind <= 5; kind++) {
            due("clerk(" + kind + ")", x.clerk(kind), Math.max(0, kind - 1));
        }
        due("clerk(0)", x.clerk(0), 5);
        says(3, "behind a .. CLERK .. told none may be (undone)");
        SlateHills y = oneWall(0);
        y.day(7);
        y.clerk(0);
        due("count(8)", y.count(8), 0);
        due("undo()", y.undo(), NO);
        due("count(3)", y.count(3), 1);
    }

    private static void vines() {
        says(4, "CELLS 0 .. 19. BAD.");
        bad(EdgesTest::rich, "vines(-1, 1)", x -> x.vines(-1, 1));
        bad(EdgesTest::rich, "vines(20, 1)", x -> x.vines(20, 1));
        for (int c = 0; c < 20; c++) {
            due("vines(" + c + ", 2)", new SlateHills().vines(c, 2), 1);
        }
        says(4, "VINEYARDS (0 .. 9). BAD.");
        bad(EdgesTest::rich, "vines(1, -1)", x -> x.vines(1, -1));
        bad(EdgesTest::rich, "vines(1, 10)", x -> x.vines(1, 10));
        SlateHills x = new SlateHills();
        due("vines(19, 0)", x.vines(19, 0), 1);
        due("vines(19, 9)", x.vines(19, 9), 0);
        due("vines(19, 9) again", x.vines(19, 9), 9);
        due("has(19)", x.has(19), 9);
        due("has(18)", x.has(18), 1);
        says(4, "behind .. VINEYARDS told none may be (undone)");
        x.day(7);
        x.vines(19, 9);
        due("count(8)", x.count(8), 0);
        due("undo()", x.undo(), NO);
    }

    private static void hillNumbers() {
        says(5, "KINDS of MATTERS 0 .. 5. BAD.");
        bad(EdgesTest::rich, "hill(-1, 0, 0)", x -> x.hill(-1, 0, 0));
        bad(EdgesTest::rich, "hill(6, 0, 0)", x -> x.hill(6, 0, 0));
        for (int kind = 0; kind <= 5; kind++) {
            SlateHills x = on(PLAIN, kind, 0, 0);
            due("of(0, 0)", x.of(0, 0), kind);
        }
        says(5, "on a CELL 0 .. 19. BAD.");
        bad(EdgesTest::rich, "hill(0, -1, 0)", x -> x.hill(0, -1, 0));
        bad(EdgesTest::rich, "hill(0, 20, 0)", x -> x.hill(0, 20, 0));
        for (int c = 0; c < 20; c++) {
            due("of(0, 1)", on(PLAIN, WALL, c, 0).of(0, 1), c);
        }
        says(5, "SIZE (0 .. 59). BAD.");
        bad(EdgesTest::rich, "hill(0, 0, -1)", x -> x.hill(0, 0, -1));
        bad(EdgesTest::rich, "hill(0, 0, 60)", x -> x.hill(0, 0, 60));
        due("of(0, 2) of 0", on(PLAIN, WALL, 0, 0).of(0, 2), 0);
        due("of(0, 2) of 59", on(PLAIN, WALL, 0, 59).of(0, 2), 59);
    }

    private static void hillPlaces() {
        says(5, "NO: one is on that CELL");
        refused(NO, NO, EdgesTest::rich, "hill(0, 4, 0)", x -> x.hill(0, 4, 0));
        refused(NO, NO, EdgesTest::rich, "hill(5, 15, 59)", x -> x.hill(5, 15, 59));
        due("hill(0, 3, 0) beside one", rich().hill(0, 3, 0), 3);
        SlateHills gone = oneWall(58);
        gone.day(7);
        due("hill(0, 10, 0) where one went off", gone.hill(0, 10, 0), NO);
        says(5, "FULL: 7.");
        SlateHills x = new SlateHills();
        for (int i = 0; i < 7; i++) {
            due("hill(0, " + (19 - i) + ", 0)", x.hill(0, 19 - i, 0), i);
        }
        due("hill(0, 0, 0)", x.hill(0, 0, 0), FULL);
        refused(FULL, FULL, EdgesTest::sevenHills, "hill(0, 1, 0)", y -> y.hill(0, 1, 0));
        says(5, "Refused .. the first of: BAD, NO, FULL");
        bad(EdgesTest::sevenHills, "hill(6, 0, 0)", y -> y.hill(6, 0, 0));
        bad(EdgesTest::sevenHills, "hill(0, 1, 60)", y -> y.hill(0, 1, 60));
        bad(EdgesTest::rich, "hill(0, 4, 60)", y -> y.hill(0, 4, 60));
        refused(NO, NO, EdgesTest::sevenHills, "hill(0, 0, 0)", y -> y.hill(0, 0, 0));
        says(5, "behind a HILL .. told none may be (undone)");
        SlateHills undone = onDay(3, PLAIN, WALL, 0, 0);
        due("count(8)", undone.count(8), 0);
        due("undo()", undone.undo(), NO);
        due("count(3)", undone.count(3), 3);
    }

    // ---- promises 6 to 8: the text

    private static void typed() {
        says(6, "A byte (0 .. 127) comes behind THE TEXT: how many it has. BAD");
        bad(EdgesTest::rich, "type(-1)", x -> x.type(-1));
        bad(EdgesTest::rich, "type(128)", x -> x.type(128));
        SlateHills x = new SlateHills();
        for (int c = 0; c <= 127; c++) {
            due("type(" + c + ")", x.type(c), c + 1);
        }
        says(6, "a TEXT (150 bytes at most). FULL.");
        for (int n = 129; n <= 150; n++) {
            due("type(59)", x.type(59), n);
        }
        due("type(59)", x.type(59), FULL);
        due("count(9)", x.count(9), 150);
        Supplier<SlateHills> full = () -> write(rich(), "island 0;" + "day 7;".repeat(23) + "day");
        refused(FULL, FULL, full, "type(32)", y -> y.type(32));
        refused(FULL, FULL, full, "type(0)", y -> y.type(0));
        says(6, "Refused .. the first of: BAD, FULL");
        bad(full, "type(128)", y -> y.type(128));
        bad(full, "type(-1)", y -> y.type(-1));
        says(7, "THE TEXT is empty: how many it had.");
        due("clear() of a full one", x.clear(), 150);
        due("clear() of an empty one", x.clear(), 0);
        due("count(9)", x.count(9), 0);
        due("type(32)", x.type(32), 1);
        due("clear()", x.clear(), 1);
        due("read()", x.read(), -10);
        told(28, () -> write(rich(), "island 5;hill 3 2 1;day 0 7;"), "clear(), and the text again", y -> {
            int had = y.clear();
            write(y, "island 5;hill 3 2 1;day 0 7;");
            return had;
        });
    }

    /** Each text with its answer: by read() on an island, on which all stays if it has a fault. */
    private static void reads(String text, int want) {
        SlateHills x = write(new SlateHills(), text);
        due("read() of \"" + text + "\"", x.read(), want);
        if (want <= -10) {
            told(want, () -> write(rich(), text), "read() of \"" + text + "\"", SlateHills::read);
        }
    }

    private static void faultAt(String sound, String rest) {
        reads(sound + rest, -10 - sound.length());
    }

    private static void textEnds() {
        says(8, "the TEXT's length, if it ends too early (an empty one, too)");
        reads("", -10);
        reads(" ", -11);
        reads("  ", -12);
        reads("island", -16);
        reads("island ", -17);
        reads("island 0", -18);
        reads("island 0  ", -20);
        reads("island 0;vines", -24);
        reads("island 0;vines 1", -26);
        reads("island 0;vines 1 1", -28);
        reads("island 0;hill", -23);
        reads("island 0;hill 0", -25);
        reads("island 0;hill 0 0", -27);
        reads("island 0;hill 0 0 0", -29);
        reads("island 0;day", -22);
        reads("island 0;day ", -23);
        reads("island 0;day 7", -24);
        reads("island 0;day 7 7 7 7 7 7 7 7 7", -10 - 30);
        says(8, "a TEXT (150 bytes at most): the last of them");
        reads(" ".repeat(150), -160);
        reads(" ".repeat(149) + ";", -159);
        reads(" ".repeat(144) + "island", -160);
        reads(" ".repeat(149) + "i", -159);
        reads(" ".repeat(142) + "island 0", -160);
        reads(" ".repeat(141) + "island 0;", 1);
        reads("island 0;" + " ".repeat(141), 1);
        reads("island 0;" + " ".repeat(140) + "0", -159);
        reads("island 0;" + "day 7;".repeat(23) + "day", -160);
        reads("island 0;" + "day 7;".repeat(23) + "   ", 24);
    }

    private static void textWords() {
        says(8, "island KIND (of THE CLERK; once, first of all); anything ahead of it");
        for (String first : List.of("vines 0 0;", "hill 0 0 0;", "day 7;", "7", ";", "a", "000", "isle 0;", "-")) {
            faultAt("", first + "island 0;");
            faultAt("  ", first + "island 0;");
        }
        says(8, "island again");
        faultAt("island 0;", "island 0;");
        faultAt("island 0;hill 0 0 0; ", "island 0;");
        says(8, "a word that is none");
        for (String none : List.of("a", "z", "islands", "islan", "isla", "hills", "hil", "days", "da", "vine", "viness",
                "wall", "xday", "dayday", "hilly", "ialand", "dax", "vinez", "hall", "daz", "hilk", "jsland", "zay", "gill",
                "dines", "islandz", "islanda", "dayz", "daya", "hillz", "vinesz", "aisland", "zisland")) {
            faultAt("island 0;", none + " 0 0 0;");
            faultAt("", none + " 0;");
        }
        says(8, "words of letters a .. z: a byte that begins none");
        for (int c = 0; c < 128; c++) {
            boolean begins = c == ' ' || c == ';' || c >= '0' && c <= '9' || c >= 'a' && c <= 'z';
            if (!begins) {
                faultAt("", (char) c + "island 0;");
                faultAt("island", (char) c + " 0;");
                faultAt("island ", (char) c + "0;");
                faultAt("island 0", (char) c + ";");
                faultAt("island 0;", String.valueOf((char) c));
                faultAt("island 0;day 7", (char) c + "7;");
            }
        }
        faultAt("", "Island 0;");
        faultAt("", "islanD 0;");
        faultAt("island 0;", "daY 7;");
    }

    private static void textFigures() {
        says(8, "figures (1 or 2 are one number)");
        reads("island 5;", 1);
        reads("island 05;", 1);
        reads("island 00;vines 00 00;hill 00 00 00;day 00 07;", 4);
        SlateHills x = write(new SlateHills(), "island 03;vines 12 09;hill 4 18 57;");
        due("read()", x.read(), 3);
        due("count(5)", x.count(5), 3);
        due("has(12)", x.has(12), 9);
        due("of(0, 1)", x.of(0, 1), 18);
        due("of(0, 2)", x.of(0, 2), 57);
        says(8, "a run of three figures or more (at its first one)");
        faultAt("island ", "000;");
        faultAt("island ", "001;");
        faultAt("island ", "0000;");
        faultAt("island 0;vines ", "001 1;");
        faultAt("island 0;vines 1 ", "001;");
        faultAt("island 0;hill ", "000 1 1;");
        faultAt("island 0;hill 0 ", "001 1;");
        faultAt("island 0;hill 0 1 ", "059;");
        faultAt("island 0;day ", "007;");
        faultAt("island 0;day 7 ", "777;");
        faultAt("island 0;day 7 ", "7777777777777777;");
        faultAt("island ", "000");
        faultAt("island ", "4294967296;");
    }

    private static void textNumbers() {
        says(8, "a number not as told: KIND of THE CLERK");
        reads("island 0;", 1);
        faultAt("island ", "6;");
        faultAt("island ", "10;");
        faultAt("island ", "99;");
        says(8, "a number not as told: vines c n");
        reads("island 0;vines 0 0;", 2);
        reads("island 0;vines 19 9;", 2);
        faultAt("island 0;vines ", "20 0;");
        faultAt("island 0;vines ", "99 0;");
        faultAt("island 0;vines 0 ", "10;");
        faultAt("island 0;vines 0 ", "99;");
        says(8, "a number not as told: hill KIND c SIZE");
        reads("island 0;hill 0 0 0;", 2);
        reads("island 0;hill 5 19 59;", 2);
        faultAt("island 0;hill ", "6 0 0;");
        faultAt("island 0;hill ", "99 0 0;");
        faultAt("island 0;hill 0 ", "20 0;");
        faultAt("island 0;hill 0 ", "99 0;");
        faultAt("island 0;hill 0 0 ", "60;");
        faultAt("island 0;hill 0 0 ", "99;");
        says(8, "a number not as told: a word, a ; where a number is due, a number where none is");
        for (String item : List.of("island ", "island 0;vines ", "island 0;vines 1 ", "island 0;hill ",
                "island 0;hill 1 ", "island 0;hill 1 1 ", "island 0;day ")) {
            faultAt(item, ";");
            faultAt(item, "day;");
            faultAt(item, "x;");
            faultAt(item, "-1;");
        }
        for (String item : List.of("island 0 ", "island 0;vines 1 1 ", "island 0;hill 1 1 1 ")) {
            faultAt(item, "0;");
            faultAt(item, "day 7;");
        }
        faultAt("island 0;day 7 ", "day 7;");
        says(8, "; where there is none");
        faultAt("", ";island 0;");
        faultAt("island 0;", ";");
        faultAt("island 0;", "; day 7;");
        faultAt("island 0;day 7; ", ";");
        says(8, "each ended by ; : a number where an ITEM is due");
        faultAt("island 0;", "7;");
        faultAt("island 0;day 7; ", "7;");
    }

    private static final String SEVEN = "island 0;hill 0 0 0;hill 0 1 0;hill 0 2 0;hill 0 3 0;hill 0 4 0;hill 0 5 0;hill 0 6 0;";

    private static void textHillsAndDays() {
        says(8, "an 8th hill at its word");
        reads(SEVEN, 8);
        faultAt(SEVEN, "hill 0 7 0;");
        faultAt(SEVEN, "hill 9 9 99;");
        faultAt(SEVEN + " ", "hill");
        reads(SEVEN + "day 6 7 0;vines 0 9;", 10);
        says(8, "a CELL on which one is (hill)");
        faultAt("island 0;hill 0 1 0;hill 0 ", "1 0;");
        faultAt("island 0;hill 0 19 0;hill 0 0 0;hill 0 ", "19 0;");
        reads("island 0;hill 0 1 0;vines 1 1;", 3);
        SlateHills x = write(oneWall(5), "island 0;hill 0 10 0;");
        due("read(): the hills that were are none of it", x.read(), 2);
        says(8, "a HILL that is not there yet");
        faultAt("island 0;day ", "0;");
        faultAt("island 0;day 7 ", "0;hill 0 0 0;");
        faultAt("island 0;hill 0 0 0;day 0 ", "1;");
        faultAt("island 0;hill 0 0 0;day ", "6;");
        faultAt("island 0;hill 0 0 0;day ", "8;");
        faultAt("island 0;hill 0 0 0;day 0 ", "99;");
        faultAt(SEVEN + "day 6 7 ", "8;");
        Supplier<SlateHills> seven = () -> write(sevenHills(), "island 0;day 0;");
        told(-23, seven, "read() of a HILL of the island ahead", SlateHills::read);
        says(8, "day and 1 to 9 numbers; a 10th DAY");
        faultAt("island 0;day", ";");
        reads("island 0;day 7;", 2);
        reads("island 0;day 7 7 7 7 7 7 7 7 7;", 2);
        faultAt("island 0;day 7 7 7 7 7 7 7 7 7 ", "7;");
        faultAt("island 0;day 7 7 7 7 7 7 7 7 7 ", "8;");
        reads("island 0;day 7 7 7 7 7 7 7 7 7;day 7 7 7 7 7 7 7 7 7;", 3);
    }

    private static void textRead() {
        says(8, "blanks (32) between");
        reads("   island   0   ;   day   7   7   ;   ", 2);
        reads("island0;vines1 9;hill0 1 2;day0 7;", 4);
        faultAt("island", "\t0;");
        says(8, "THE ISLAND is read: how many ITEMS");
        SlateHills x = write(rich(), "island 1;vines 10 9;hill 0 10 56;day 7 7;vines 10 4;hill 2 19 19;day 0;");
        due("read()", x.read(), 7);
        int[] counts = {2, 19, 13, 3, 22, OLD, 0, 0, 0, 71};
        for (int what = 0; what < counts.length; what++) {
            due("count(" + what + ")", x.count(what), counts[what]);
        }
        says(8, "takes the place of all but IMAGES, THE TEXT, THE FRACTION, STATUS (SEEN ones, MARKS none; nothing to undo)");
        due("undo()", x.undo(), NO);
        due("kinds()", x.kinds(), 63);
        due("which(1)", x.which(1), 63);
        due("part(0)", x.part(0), 49);
        due("part(1)", x.part(1), 100);
        due("status(0)", x.status(0), 0);
        due("status(1)", x.status(1), 1);
        due("read() again", x.read(), 7);
        due("from(1)", x.from(1), 1);
        due("count(8)", x.count(8), 2);
        due("count(0)", x.count(0), 2);
        due("count(7)", x.count(7), 1);
        due("count(9)", x.count(9), 71);
        says(8, "an ISLAND that is read: vines 1 each, no HARM, DAY 0, if nothing else is told");
        SlateHills bare = rich();
        write(bare, "island 2;");
        due("read()", bare.read(), 1);
        int[] bareCounts = {0, 20, 0, 0, 0, LAMP, 0, 0, 0, 9};
        for (int what = 0; what < bareCounts.length; what++) {
            due("count(" + what + ")", bare.count(what), bareCounts[what]);
        }
        says(8, "-10 less the FAULT: all stays");
        faultAt("island 2;vines 5 0;hill 0 1 59;day 7 0;", "vinez");
    }

    // ---- promise 9: a day

    private static void dayNumbers() {
        says(9, "a HILL (7: none) being VISITED. BAD");
        bad(EdgesTest::rich, "day(-1)", x -> x.day(-1));
        bad(EdgesTest::rich, "day(3) of three hills", x -> x.day(3));
        bad(EdgesTest::rich, "day(6) of three hills", x -> x.day(6));
        bad(EdgesTest::rich, "day(8)", x -> x.day(8));
        bad(SlateHills::new, "day(0) of none", x -> x.day(0));
        due("day(7) of none", new SlateHills().day(7), 0);
        SlateHills x = sevenHills();
        for (int i = 0; i <= 7; i++) {
            due("day(" + i + ") of seven", x.day(i), 0);
        }
        bad(EdgesTest::sevenHills, "day(8) of seven", y -> y.day(8));
        says(9, "NO: DAY 9999.");
        refused(NO, NO, () -> onDay(9999, PLAIN, WALL, 0, 5), "day(7)", y -> y.day(7));
        refused(NO, NO, () -> onDay(9999, PLAIN, WALL, 0, 5), "day(0)", y -> y.day(0));
        due("day(7) on DAY 9998", onDay(9998, PLAIN).day(7), 0);
        says(9, "Refused .. the first of: BAD, NO");
        bad(() -> onDay(9999, PLAIN, WALL, 0, 5), "day(1)", y -> y.day(1));
    }

    private static void dueGrows(int kind, int size, int day, int want) {
        SlateHills x = onDay(day - 1, PLAIN, kind, 10, size);
        due("of(0, 3) of KIND " + kind + ", SIZE " + size + " ahead of DAY " + day, x.of(0, 3), want);
        x.day(7);
        due("of(0, 2) behind DAY " + day, x.of(0, 2), size + want < 60 ? size + want : 0);
    }

    private static void dayGrows() {
        says(9, "0 WALL: 2.");
        dueGrows(WALL, 0, 1, 2);
        dueGrows(WALL, 59, 2, 2);
        says(9, "1 SHADE (under WALL): WALL, 2 more, if t by 7 leaves 3 or more over.");
        int[] shade = {2, 2, 4, 4, 4, 4, 2, 2, 2, 4, 4, 4, 4, 2, 2, 2, 4};
        for (int t = 1; t <= shade.length; t++) {
            dueGrows(SHADE, t % 2 == 0 ? 59 : 0, t, shade[t - 1]);
        }
        says(9, "2 SPOON (under WALL): WALL and a tenth (cut) of s.");
        for (int s = 0; s <= 59; s++) {
            dueGrows(SPOON, s, 1 + s % 9, 2 + s / 10);
        }
        says(9, "3 GOAT (under SHADE): twice SHADE.");
        for (int t = 1; t <= shade.length; t++) {
            dueGrows(GOAT, t % 2 == 0 ? 51 : 0, t, 2 * shade[t - 1]);
        }
        says(9, "4 WIFE (under SPOON): SPOON and 3.");
        for (int s = 0; s <= 59; s++) {
            dueGrows(WIFE, s, 1 + s % 9, 5 + s / 10);
        }
        says(9, "5 CHILD (under WALL): WALL, but 0, if t is an odd number.");
        for (int t = 1; t <= 16; t++) {
            dueGrows(CHILD, 3 * t, t, t % 2 == 0 ? 2 : 0);
        }
    }

    private static void dueFalls(int clerk, int size, int day, int want) {
        SlateHills x = onDay(day - 1, clerk, WALL, 10, size);
        due("of(0, 4) by KIND " + clerk + ", SIZE " + size + " ahead of DAY " + day, x.of(0, 4), want);
        x.day(0);
        due("of(0, 2) behind DAY " + day, x.of(0, 2), Math.max(0, size - want));
    }

    private static void dayFalls() {
        for (int s = 0; s <= 59; s++) {
            int t = 1 + s % 7;
            says(9, "0 PLAIN: 8.");
            dueFalls(PLAIN, s, t, 8);
            says(9, "1 OLD (under PLAIN): half of PLAIN.");
            dueFalls(OLD, s, t, 4);
            says(9, "2 LAMP (under PLAIN): PLAIN and a fifth (cut) of s.");
            dueFalls(LAMP, s, t, 8 + s / 5);
            says(9, "3 GENTLE (under LAMP): 4 more than LAMP.");
            dueFalls(GENTLE, s, t, 12 + s / 5);
            says(9, "4 DEAF (under OLD): OLD, but 0, if s is 40 or more.");
            dueFalls(DEAF, s, t, s < 40 ? 4 : 0);
            says(9, "5 QUICK (under PLAIN): twice PLAIN, if t by 3 leaves 0 over, else PLAIN.");
            dueFalls(QUICK, s, t, t == 3 || t == 6 ? 16 : 8);
        }
        says(9, "the one that is VISITED falls by THE CLERK's (0 at least)");
        for (int s = 0; s <= 9; s++) {
            SlateHills x = oneWall(s);
            x.day(0);
            due("of(0, 2) of " + s, x.of(0, 2), s == 9 ? 1 : 0);
        }
        says(9, "each HILL but the one that is VISITED grows");
        SlateHills x = sevenHills();
        x.day(3);
        int[] sizes = {2, 3, 4, 0, 9, 5, 8};
        for (int i = 0; i < sizes.length; i++) {
            due("of(" + i + ", 2)", x.of(i, 2), sizes[i]);
        }
    }

    private static void dayGoesOff() {
        says(9, "as long as a HILL has SIZE 60 or more");
        SlateHills x = oneWall(57);
        due("day(7) to 59", x.day(7), 0);
        due("of(0, 2)", x.of(0, 2), 59);
        due("day(7) to 61", x.day(7), 5);
        due("of(0, 2)", x.of(0, 2), 0);
        due("day(7) to 60", oneWall(58).day(7), 5);
        says(9, "SIZE is 0 (of the greatest, too)");
        SlateHills far = on(PLAIN, WIFE, 10, 59);
        due("day(7) to 69", far.day(7), 5);
        due("of(0, 2)", far.of(0, 2), 0);
        says(9, "VINEYARDS of its CELL and of all CELLS that are 2 from it or nearer are lost (HARM that many more)");
        SlateHills y = oneWall(58);
        for (int c = 0; c < 20; c++) {
            y.vines(c, c % 10);
        }
        due("day(7)", y.day(7), 8 + 9 + 0 + 1 + 2);
        for (int c = 0; c < 20; c++) {
            due("has(" + c + ")", y.has(c), c >= 8 && c <= 12 ? 0 : c % 10);
        }
        due("count(2)", y.count(2), 20);
        says(9, "VINEYARDS .. are lost: none are there any more");
        SlateHills again = on(PLAIN, GOAT, 10, 56);
        due("day(7)", again.day(7), 5);
        again.hill(WALL, 11, 58);
        due("day(7): but one is left", again.day(7), 1);
        due("count(2)", again.count(2), 6);
        again.putBack(11, 4);
        due("count(2) behind putBack", again.count(2), 6);
    }

    private static void dayAtTheEnds() {
        says(9, "CELLS .. lie in a row: at its ends");
        int[] lost = {3, 4, 5, 5};
        for (int c = 0; c < lost.length; c++) {
            SlateHills low = on(PLAIN, WALL, c, 58);
            due("day(7), a HILL on " + c, low.day(7), lost[c]);
            SlateHills high = on(PLAIN, WALL, 19 - c, 58);
            due("day(7), a HILL on " + (19 - c), high.day(7), lost[c]);
            for (int d = 0; d < 20; d++) {
                due("has(" + d + ")", low.has(d), Math.abs(d - c) <= 2 ? 0 : 1);
                due("has(" + d + ")", high.has(d), Math.abs(d - 19 + c) <= 2 ? 0 : 1);
            }
        }
        says(9, "CELLS .. lie in a row: the last is not beside the first");
        SlateHills x = on(PLAIN, WALL, 0, 58, WALL, 19, 10, WALL, 18, 10, WALL, 17, 10);
        due("day(7)", x.day(7), 3);
        for (int i = 1; i <= 3; i++) {
            due("of(" + i + ", 2)", x.of(i, 2), 12);
        }
        SlateHills y = on(PLAIN, WALL, 0, 10, WALL, 1, 10, WALL, 2, 10, WALL, 19, 58);
        due("day(7)", y.day(7), 3);
        for (int i = 0; i <= 2; i++) {
            due("of(" + i + ", 2)", y.of(i, 2), 12);
        }
    }

    private static void daySpreads() {
        says(9, "SIZE of each other HILL that is 3 from it or nearer .. is 15 more");
        for (int far = 1; far <= 6; far++) {
            SlateHills above = on(PLAIN, WALL, 10, 58, WALL, 10 + far, 10);
            SlateHills below = on(PLAIN, WALL, 10 - far, 10, WALL, 10, 58);
            above.day(7);
            below.day(7);
            due("of(1, 2), " + far + " from it", above.of(1, 2), far <= 3 ? 27 : 12);
            due("of(0, 2), " + far + " from it", below.of(0, 2), far <= 3 ? 27 : 12);
        }
        says(9, "as long as a HILL has SIZE 60 or more: by another");
        SlateHills at59 = on(PLAIN, WALL, 10, 58, WALL, 13, 42);
        due("day(7)", at59.day(7), 5);
        due("of(1, 2)", at59.of(1, 2), 59);
        SlateHills at60 = on(PLAIN, WALL, 10, 58, WALL, 13, 43);
        due("day(7)", at60.day(7), 8);
        due("of(1, 2)", at60.of(1, 2), 0);
        SlateHills back = on(PLAIN, WALL, 13, 43, WALL, 10, 58);
        due("day(7): one ahead of it", back.day(7), 8);
        due("of(0, 2)", back.of(0, 2), 0);
        says(9, "the one that is VISITED: by another, too");
        SlateHills visited = on(PLAIN, WALL, 10, 58, WALL, 13, 53, WALL, 7, 52);
        due("day(1)", visited.day(1), 8 + 3);
        SlateHills safe = on(PLAIN, WALL, 10, 58, WALL, 13, 52);
        due("day(1)", safe.day(1), 5);
        due("of(1, 2)", safe.of(1, 2), 59);
        says(9, "and that did not GO OFF on this DAY");
        SlateHills both = on(PLAIN, WALL, 10, 58, WALL, 11, 58, WALL, 12, 58);
        due("day(7)", both.day(7), 7);
        for (int i = 0; i < 3; i++) {
            due("of(" + i + ", 2)", both.of(i, 2), 0);
        }
        says(9, "did not GO OFF on this DAY: on the next one it is 15 more again");
        SlateHills next = on(PLAIN, WALL, 10, 58, WALL, 14, 56, WALL, 12, 0);
        next.day(7);
        due("of(2, 2)", next.of(2, 2), 17);
        next.day(7);
        due("of(0, 2): 4 from it", next.of(0, 2), 2);
        due("of(2, 2)", next.of(2, 2), 34);
        next.hill(WALL, 11, 58);
        next.day(7);
        due("of(0, 2)", next.of(0, 2), 2 + 2 + 15);
        due("of(1, 2)", next.of(1, 2), 0 + 2 + 15);
        due("of(2, 2)", next.of(2, 2), 34 + 2 + 15);
        allSevenGoOff();
    }

    private static void allSevenGoOff() {
        says(9, "as long as a HILL has SIZE 60 or more: all seven, the last one first");
        SlateHills x = on(PLAIN, WALL, 0, 43, WALL, 3, 43, WALL, 6, 43, WALL, 9, 43, WALL, 12, 43, WALL, 15, 43, WALL, 18, 58);
        due("chain(6)", x.chain(6), 127 - 63);
        due("day(7)", x.day(7), 20);
        due("count(4)", x.count(4), 0);
        due("count(1)", x.count(1), 0);
        due("count(2)", x.count(2), 20);
        says(9, "15 more for each that GOES OFF");
        SlateHills y = on(PLAIN, WALL, 9, 0, WALL, 6, 58, WALL, 7, 58, WALL, 8, 58, WALL, 10, 58);
        due("day(7): four make one of SIZE 2 GO OFF", y.day(7), 9);
        due("of(0, 2)", y.of(0, 2), 0);
        SlateHills z = on(PLAIN, WALL, 9, 0, WALL, 6, 58, WALL, 7, 58, WALL, 8, 58, WALL, 13, 58);
        z.day(7);
        due("of(0, 2): three don't", z.of(0, 2), 47);
    }

    // ---- promises 10 to 13

    private static void putBack() {
        says(10, "a CELL (0 .. 19). BAD");
        bad(EdgesTest::rich, "putBack(-1, 1)", x -> x.putBack(-1, 1));
        bad(EdgesTest::rich, "putBack(20, 1)", x -> x.putBack(20, 1));
        due("putBack(0, 1)", new SlateHills().putBack(0, 1), 2);
        due("putBack(19, 1)", new SlateHills().putBack(19, 1), 2);
        says(10, "n (1 .. 9) more. BAD");
        bad(EdgesTest::rich, "putBack(0, 0)", x -> x.putBack(0, 0));
        bad(EdgesTest::rich, "putBack(0, -1)", x -> x.putBack(0, -1));
        bad(EdgesTest::rich, "putBack(0, 10)", x -> x.putBack(0, 10));
        says(10, "(9 at most): how many it has");
        for (int had = 0; had < 9; had++) {
            for (int n = 1; n <= 9; n++) {
                SlateHills x = new SlateHills();
                x.vines(5, had);
                due("putBack(5, " + n + ") to " + had, x.putBack(5, n), Math.min(9, had + n));
                due("has(5)", x.has(5), Math.min(9, had + n));
            }
        }
        says(10, "NO: it has 9.");
        refused(NO, NO, EdgesTest::rich, "putBack(3, 1)", x -> x.putBack(3, 1));
        refused(NO, NO, EdgesTest::rich, "putBack(6, 9)", x -> x.putBack(6, 9));
        says(10, "Refused .. the first of: BAD, NO");
        bad(EdgesTest::rich, "putBack(3, 0)", x -> x.putBack(3, 0));
        bad(EdgesTest::rich, "putBack(3, 10)", x -> x.putBack(3, 10));
        says(10, "VINEYARDS put back: no DAY goes by");
        SlateHills x = onDay(4, PLAIN, WALL, 3, 7);
        x.putBack(3, 2);
        due("count(3)", x.count(3), 4);
        due("of(0, 2)", x.of(0, 2), 7);
        due("count(8)", x.count(8), 1);
    }

    private static void undo() {
        says(11, "NO: none may be.");
        refused(NO, NO, SlateHills::new, "undo()", SlateHills::undo);
        refused(NO, NO, EdgesTest::sevenHills, "undo()", SlateHills::undo);
        says(11, "SIZES, VINEYARDS, HARM, the DAY as ahead of the last DAY");
        SlateHills x = on(PLAIN, WALL, 10, 58, WIFE, 12, 40);
        long before = x.digest();
        due("day(7)", x.day(7), 7);
        due("undo()", x.undo(), 0);
        due("digest()", x.digest(), before);
        due("undo() again", x.undo(), NO);
        due("day(7) again", x.day(7), 7);
        says(11, "as ahead of the last .. putting back");
        long harmed = x.digest();
        x.putBack(12, 9);
        due("undo()", x.undo(), 1);
        due("digest()", x.digest(), harmed);
        due("count(8): the DAY may be undone still", x.count(8), 1);
        says(11, "8 at most");
        for (int days = 0; days <= 12; days++) {
            SlateHills y = onDay(0, PLAIN, WALL, 10, 40);
            idle(y, days);
            due("count(8) behind " + days, y.count(8), Math.min(8, days));
            for (int n = 1; n <= Math.min(8, days); n++) {
                due("undo()", y.undo(), days - n);
                due("count(8)", y.count(8), Math.min(8, days) - n);
            }
            due("undo() of no more", y.undo(), NO);
            due("count(3)", y.count(3), Math.max(0, days - 8));
        }
        says(11, "8 at most: around and around");
        SlateHills z = on(PLAIN, GOAT, 10, 0, WALL, 17, 3);
        List<Long> digests = new ArrayList<>();
        for (int n = 0; n < 40; n++) {
            digests.add(withoutUndo(z));
            if (n % 3 == 2) {
                z.putBack(n % 20, 1);
            } else {
                z.day(7);
            }
            if (n % 5 == 4) {
                for (int back = 0; back < 3; back++) {
                    z.undo();
                    due("all behind undo()", withoutUndo(z), digests.remove(digests.size() - 1));
                }
            }
        }
        undoneByWhat();
    }

    /** What undo() takes back, in one number. */
    private static long withoutUndo(SlateHills x) {
        long h = 0;
        for (int what = 1; what <= 4; what++) {
            h = 10007 * h + x.count(what);
        }
        return h;
    }

    private static void undoneByWhat() {
        says(11, "(behind a HILL, CLERK, VINEYARDS told none may be)");
        List<ToLongFunction<SlateHills>> calls = List.of(x -> x.hill(WALL, 0, 0), x -> x.clerk(0), x -> x.vines(0, 1),
                x -> x.island(0));
        for (ToLongFunction<SlateHills> call : calls) {
            SlateHills x = onDay(2, PLAIN, WALL, 5, 5);
            idle(x, 3);
            call.applyAsLong(x);
            due("count(8)", x.count(8), 0);
            due("undo()", x.undo(), NO);
            x.day(7);
            due("count(8) behind a DAY", x.count(8), 1);
            due("undo()", x.undo(), x.count(3));
            due("undo() again", x.undo(), NO);
        }
        says(11, "SEEN, MARKS, IMAGES, THE TEXT, THE FRACTION are not undone, nor do they end what may be");
        SlateHills x = oneWall(58);
        x.day(7);
        x.seen(0, 0, 0, 2);
        x.mark(0, 0, 8);
        x.image(0);
        x.chance(0, 0, 0);
        x.type(32);
        due("count(8)", x.count(8), 1);
        due("undo()", x.undo(), 0);
        due("count(6)", x.count(6), 1);
        due("count(7)", x.count(7), 1);
        due("count(9)", x.count(9), 1);
        due("part(0)", x.part(0), 1);
        due("from(0)", x.from(0), 1);
        due("count(2)", x.count(2), 5);
    }

    private static void ofAndHas() {
        says(12, "Of a HILL. BAD.");
        bad(EdgesTest::rich, "of(-1, 0)", x -> x.of(-1, 0));
        bad(EdgesTest::rich, "of(3, 0)", x -> x.of(3, 0));
        bad(EdgesTest::rich, "of(7, 0)", x -> x.of(7, 0));
        bad(EdgesTest::sevenHills, "of(7, 2)", x -> x.of(7, 2));
        bad(SlateHills::new, "of(0, 0)", x -> x.of(0, 0));
        told(19, EdgesTest::sevenHills, "of(6, 1)", x -> x.of(6, 1));
        says(12, "KIND (0) .. (4). BAD.");
        bad(EdgesTest::rich, "of(0, -1)", x -> x.of(0, -1));
        bad(EdgesTest::rich, "of(0, 5)", x -> x.of(0, 5));
        says(12, "by how much it grows on the next DAY (3)");
        told(2, () -> onDay(1, PLAIN, SHADE, 0, 0), "of(0, 3) ahead of DAY 2", x -> x.of(0, 3));
        told(4, () -> onDay(2, PLAIN, SHADE, 0, 0), "of(0, 3) ahead of DAY 3", x -> x.of(0, 3));
        told(10, () -> on(PLAIN, WIFE, 0, 59), "of(0, 3) beyond 59", x -> x.of(0, 3));
        says(12, "by how much it falls, if VISITED on it (4; as THE CLERK's KIND says)");
        told(12, () -> on(GENTLE, WALL, 0, 0), "of(0, 4) below 0", x -> x.of(0, 4));
        told(8, () -> onDay(1, QUICK, WALL, 0, 7), "of(0, 4) ahead of DAY 2", x -> x.of(0, 4));
        told(16, () -> onDay(2, QUICK, WALL, 0, 7), "of(0, 4) ahead of DAY 3", x -> x.of(0, 4));
        says(13, "VINEYARDS of a CELL. BAD.");
        bad(EdgesTest::rich, "has(-1)", x -> x.has(-1));
        bad(EdgesTest::rich, "has(20)", x -> x.has(20));
        told(1, EdgesTest::rich, "has(0)", x -> x.has(0));
        told(9, EdgesTest::rich, "has(3)", x -> x.has(3));
        told(1, EdgesTest::rich, "has(19)", x -> x.has(19));
    }

    // ---- promises 14 to 17: what goes off

    private static void highGoesLost() {
        says(14, "SIZE of a HILL behind m (0 .. 30) DAYS, none VISITED. BAD.");
        bad(EdgesTest::rich, "high(-1, 0)", x -> x.high(-1, 0));
        bad(EdgesTest::rich, "high(3, 0)", x -> x.high(3, 0));
        bad(EdgesTest::rich, "high(7, 0)", x -> x.high(7, 0));
        bad(EdgesTest::rich, "high(0, -1)", x -> x.high(0, -1));
        bad(EdgesTest::rich, "high(0, 31)", x -> x.high(0, 31));
        told(59, () -> oneWall(59), "high(0, 0)", x -> x.high(0, 0));
        told(0, () -> oneWall(59), "high(0, 1)", x -> x.high(0, 1));
        told(58, () -> oneWall(59), "high(0, 30)", x -> x.high(0, 30));
        told(6, EdgesTest::sevenHills, "high(6, 0)", x -> x.high(6, 0));
        says(15, "behind how many DAYS (1 .. 60) a HILL, none VISITED, GOES OFF first. BAD.");
        bad(EdgesTest::rich, "goes(-1)", x -> x.goes(-1));
        bad(EdgesTest::rich, "goes(3)", x -> x.goes(3));
        bad(EdgesTest::sevenHills, "goes(7)", x -> x.goes(7));
        bad(SlateHills::new, "goes(0)", x -> x.goes(0));
        told(1, () -> oneWall(59), "goes(0)", x -> x.goes(0));
        told(1, () -> oneWall(58), "goes(0)", x -> x.goes(0));
        told(2, () -> oneWall(57), "goes(0)", x -> x.goes(0));
        told(30, () -> oneWall(0), "goes(0)", x -> x.goes(0));
        told(60, () -> on(PLAIN, CHILD, 0, 0), "goes(0) of the slowest", x -> x.goes(0));
        told(59, () -> onDay(1, PLAIN, CHILD, 0, 0), "goes(0) from an odd DAY", x -> x.goes(0));
        told(1, () -> on(PLAIN, WALL, 10, 58, WALL, 13, 43), "goes(1) by another", x -> x.goes(1));
        says(16, "VINEYARDS that are lost behind m (0 .. 30) DAYS, none VISITED. BAD.");
        bad(EdgesTest::rich, "lost(-1)", x -> x.lost(-1));
        bad(EdgesTest::rich, "lost(31)", x -> x.lost(31));
        told(0, () -> oneWall(59), "lost(0)", x -> x.lost(0));
        told(5, () -> oneWall(59), "lost(1)", x -> x.lost(1));
        told(0, () -> oneWall(0), "lost(29)", x -> x.lost(29));
        told(5, () -> oneWall(0), "lost(30)", x -> x.lost(30));
        told(0, SlateHills::new, "lost(30)", x -> x.lost(30));
        Supplier<SlateHills> harmed = () -> {
            SlateHills x = oneWall(58);
            x.day(7);
            x.hill(WALL, 3, 58);
            return x;
        };
        told(5, harmed, "lost(1): what was lost ahead of it is no part", x -> x.lost(1));
    }

    private static void chain() {
        says(17, "HILLS (bits) that would GO OFF .. (itself, too). BAD.");
        bad(EdgesTest::rich, "chain(-1)", x -> x.chain(-1));
        bad(EdgesTest::rich, "chain(3)", x -> x.chain(3));
        bad(EdgesTest::sevenHills, "chain(7)", x -> x.chain(7));
        bad(SlateHills::new, "chain(0)", x -> x.chain(0));
        told(1, () -> oneWall(0), "chain(0)", x -> x.chain(0));
        told(64, EdgesTest::sevenHills, "chain(6)", x -> x.chain(6));
        says(17, "if a HILL had SIZE 60 now .. all else as now, without a DAY");
        told(1, () -> on(PLAIN, WALL, 10, 0, WALL, 13, 44), "chain(0) beside 44", x -> x.chain(0));
        told(3, () -> on(PLAIN, WALL, 10, 0, WALL, 13, 45), "chain(0) beside 45", x -> x.chain(0));
        told(1, () -> on(PLAIN, WALL, 10, 0, WALL, 14, 59), "chain(0), 4 from one", x -> x.chain(0));
        told(1, () -> on(PLAIN, WALL, 4, 0, WALL, 19, 59), "chain(0), far from one", x -> x.chain(0));
        told(5, () -> on(PLAIN, WALL, 10, 0, WALL, 11, 30, WALL, 7, 45, WALL, 3, 59), "chain(0)", x -> x.chain(0));
        told(127, () -> on(PLAIN, WALL, 0, 45, WALL, 3, 45, WALL, 6, 45, WALL, 9, 45, WALL, 12, 45, WALL, 15, 45,
                WALL, 18, 0), "chain(6) of all", x -> x.chain(6));
        told(127, () -> on(PLAIN, WALL, 0, 0, WALL, 3, 45, WALL, 6, 45, WALL, 9, 45, WALL, 12, 45, WALL, 15, 45,
                WALL, 18, 45), "chain(0) of all", x -> x.chain(0));
        says(17, "that did not GO OFF on this DAY is not asked: without a DAY");
        Supplier<SlateHills> behind = () -> {
            SlateHills x = on(PLAIN, WALL, 10, 58, WALL, 14, 45);
            x.day(7);
            return x;
        };
        told(2, behind, "chain(1)", x -> x.chain(1));
        told(1, behind, "chain(0)", x -> x.chain(0));
    }

    private static void beyondTheLastDay() {
        Supplier<SlateHills> last = () -> onDay(9999, PLAIN, WALL, 10, 50, SHADE, 2, 0);
        says(14, "DAYS, HARM go beyond 9999 in them");
        told(50, last, "high(0, 30)", x -> x.high(0, 30));
        told(4, last, "high(1, 1): 10000 by 7 leaves 4 over", x -> x.high(1, 1));
        says(15, "DAYS, HARM go beyond 9999 in them");
        told(5, last, "goes(0)", x -> x.goes(0));
        says(16, "DAYS, HARM go beyond 9999 in them");
        told(5, last, "lost(5)", x -> x.lost(5));
        says(18, "DAYS, HARM go beyond 9999 in them");
        told(0, last, "plan(4, 0)", x -> x.plan(4, 0));
        told(0, last, "plan(4, -2)", x -> x.plan(4, -2));
        says(19, "DAYS, HARM go beyond 9999 in them");
        told(0, last, "askFirst(9, 1)", x -> x.askFirst(9, 1));
        told(5, last, "askFirst(10, 1)", x -> x.askFirst(10, 1));
        says(20, "DAYS, HARM go beyond 9999 in them");
        told(0, last, "calm(30, 1)", x -> x.calm(30, 1));
        says(28, "DAYS, HARM go beyond 9999 in them");
        told(3, last, "waiting(-1)", x -> x.waiting(-1));
        says(29, "DAYS, HARM go beyond 9999 in them");
        SlateHills x = onDay(9999, PLAIN, WALL, 10, 52);
        due("chance(4, 5, 3)", x.chance(4, 5, 3), 1);
        due("part(0)", x.part(0), 2401);
        due("part(1)", x.part(1), 10000);
        says(30, "DAYS, HARM go beyond 9999 in them");
        due("years(0, 60)", onDay(9999, PLAIN).years(0, 60), 0);
        due("years(2, 1)", onDay(9999, PLAIN, WALL, 10, 58).years(2, 1), 5);
    }

    // ---- promises 18 to 20: whom to visit

    private static void planNumbers() {
        says(18, "BAD: -10: n not 1 .. 4");
        for (int n : new int[] {-1, 0, 5, 6}) {
            refused(BAD, BAD_ASKED, EdgesTest::rich, "plan(" + n + ", -2)", x -> x.plan(n, -2));
            refused(BAD, BAD_ASKED, EdgesTest::rich, "plan(" + n + ", 0)", x -> x.plan(n, 0));
            refused(BAD, BAD_ASKED, EdgesTest::rich, "plan(" + n + ", 9)", x -> x.plan(n, 9));
        }
        says(18, "BAD: -10: k below 0 (but -2)");
        refused(BAD, BAD_ASKED, EdgesTest::rich, "plan(1, -1)", x -> x.plan(1, -1));
        refused(BAD, BAD_ASKED, EdgesTest::rich, "plan(4, -3)", x -> x.plan(4, -3));
        refused(BAD, BAD_ASKED, EdgesTest::rich, "plan(4, -10)", x -> x.plan(4, -10));
        says(18, "-5: not so many.");
        for (int n = 1; n <= 4; n++) {
            int days = n;
            told(0, () -> oneWall(50), "plan(" + n + ", " + (n - 1) + ")", x -> x.plan(days, days - 1));
            told(NOT_SO_MANY, () -> oneWall(50), "plan(" + n + ", " + n + ")", x -> x.plan(days, days));
            told(NOT_SO_MANY, () -> oneWall(50), "plan(" + n + ", 8)", x -> x.plan(days, 8));
        }
        says(18, "the k-th (NONE: none is VISITED): no HILLS");
        for (int k = 0; k < 4; k++) {
            int kth = k;
            told(NONE, SlateHills::new, "plan(4, " + k + ")", x -> x.plan(4, kth));
        }
        told(0, SlateHills::new, "plan(4, -2)", x -> x.plan(4, -2));
        told(NOT_SO_MANY, SlateHills::new, "plan(4, 4)", x -> x.plan(4, 4));
    }

    private static void duePlan(Supplier<SlateHills> made, int lost, int... row) {
        told(lost, made, "plan(" + row.length + ", -2)", x -> x.plan(row.length, -2));
        for (int k = 0; k < row.length; k++) {
            int kth = k;
            told(row[k], made, "plan(" + row.length + ", " + k + ")", x -> x.plan(row.length, kth));
        }
    }

    private static void planRows() {
        says(18, "so that fewest VINEYARDS are lost behind them");
        duePlan(() -> on(PLAIN, WALL, 3, 58, WALL, 15, 55), 0, 0);
        duePlan(() -> on(PLAIN, WALL, 3, 55, WALL, 15, 58), 0, 1);
        duePlan(() -> on(PLAIN, WALL, 0, 58, WALL, 15, 58), 3, 1);
        duePlan(() -> on(PLAIN, WALL, 15, 58, WALL, 0, 58), 3, 0);
        duePlan(() -> on(PLAIN, WALL, 3, 56, WALL, 15, 56), 0, 0, 1);
        duePlan(() -> on(PLAIN, WALL, 3, 58, WALL, 10, 54, WALL, 17, 56), 0, 0, 2, 1);
        duePlan(() -> on(PLAIN, WALL, 2, 52, WALL, 7, 54, WALL, 12, 56, WALL, 17, 58), 0, 3, 2, 1, 0);
        says(18, "of like ones so that SIZES of all together are least");
        duePlan(() -> on(PLAIN, WALL, 3, 5, WALL, 15, 8), 0, 1);
        duePlan(() -> on(LAMP, WALL, 3, 20, WALL, 15, 40), 0, 1);
        says(18, "of like ones so that SIZES of all together are least: none is VISITED");
        Supplier<SlateHills> bare = () -> {
            SlateHills x = oneWall(58);
            for (int c = 8; c <= 12; c++) {
                x.vines(c, 0);
            }
            return x;
        };
        duePlan(bare, 0, NONE);
        says(18, "in the first such row (HILLS rising, none (NONE) the last)");
        duePlan(() -> on(DEAF, CHILD, 3, 50), 0, 0);
        duePlan(() -> on(DEAF, CHILD, 3, 50, CHILD, 9, 50), 0, 0, 0);
        duePlan(() -> on(PLAIN, CHILD, 3, 0), 0, 0);
        duePlan(() -> on(PLAIN, WALL, 3, 20, WALL, 15, 20), 0, 0, 0);
        // a third visit to one of them would fall below 0, so each has two; the first row of these
        duePlan(() -> on(PLAIN, WALL, 3, 20, WALL, 15, 20), 0, 0, 0, 1, 1);
        // the WIFE of SIZE 4 falls by 4 and does not grow by 5, the WALL of SIZE 6 but by 6 and 2
        duePlan(EdgesTest::sevenHills, 0, 4);
    }

    private static void askFirst() {
        says(19, "m (1 .. 30). BAD.");
        bad(EdgesTest::rich, "askFirst(0, 0)", x -> x.askFirst(0, 0));
        bad(EdgesTest::rich, "askFirst(-1, 0)", x -> x.askFirst(-1, 0));
        bad(EdgesTest::rich, "askFirst(31, 1)", x -> x.askFirst(31, 1));
        says(19, "which (0), how many (1). BAD.");
        bad(EdgesTest::rich, "askFirst(1, -1)", x -> x.askFirst(1, -1));
        bad(EdgesTest::rich, "askFirst(1, 2)", x -> x.askFirst(1, 2));
        bad(SlateHills::new, "askFirst(0, 0) without HILLS", x -> x.askFirst(0, 0));
        bad(SlateHills::new, "askFirst(1, 2) without HILLS", x -> x.askFirst(1, 2));
        says(19, "none: no HILLS. NONE.");
        told(NONE, SlateHills::new, "askFirst(1, 0)", x -> x.askFirst(1, 0));
        told(NONE, SlateHills::new, "askFirst(30, 1)", x -> x.askFirst(30, 1));
        says(19, "VISITED on the first of m DAYS, none on the others");
        told(0, () -> oneWall(58), "askFirst(1, 0)", x -> x.askFirst(1, 0));
        told(0, () -> oneWall(58), "askFirst(1, 1)", x -> x.askFirst(1, 1));
        told(0, () -> oneWall(58), "askFirst(5, 1): 58", x -> x.askFirst(5, 1));
        told(5, () -> oneWall(58), "askFirst(6, 1): 60", x -> x.askFirst(6, 1));
        told(0, () -> oneWall(10), "askFirst(29, 1): 58", x -> x.askFirst(29, 1));
        told(5, () -> oneWall(10), "askFirst(30, 1): 60", x -> x.askFirst(30, 1));
        says(19, "lets fewest be lost; of like ones the least");
        told(0, () -> on(PLAIN, WALL, 3, 58, WALL, 15, 58), "askFirst(1, 0)", x -> x.askFirst(1, 0));
        told(5, () -> on(PLAIN, WALL, 3, 58, WALL, 15, 58), "askFirst(1, 1)", x -> x.askFirst(1, 1));
        told(1, () -> on(PLAIN, WALL, 0, 58, WALL, 15, 58), "askFirst(1, 0)", x -> x.askFirst(1, 0));
        told(3, () -> on(PLAIN, WALL, 0, 58, WALL, 15, 58), "askFirst(1, 1)", x -> x.askFirst(1, 1));
        told(6, () -> on(PLAIN, WALL, 0, 1, WALL, 1, 1, WALL, 2, 1, WALL, 3, 1, WALL, 4, 1, WALL, 5, 1, WALL, 19, 58),
                "askFirst(1, 0)", x -> x.askFirst(1, 0));
    }

    private static void calm() {
        says(20, "m (1 .. 30). BAD.");
        bad(EdgesTest::rich, "calm(0, 0)", x -> x.calm(0, 0));
        bad(EdgesTest::rich, "calm(-1, 1)", x -> x.calm(-1, 1));
        bad(EdgesTest::rich, "calm(31, 0)", x -> x.calm(31, 0));
        says(20, "the KIND (0), how many (1). BAD.");
        bad(EdgesTest::rich, "calm(1, -1)", x -> x.calm(1, -1));
        bad(EdgesTest::rich, "calm(1, 2)", x -> x.calm(1, 2));
        says(20, "the HILL of most SIZE being VISITED: there is none");
        told(0, SlateHills::new, "calm(1, 0)", x -> x.calm(1, 0));
        told(0, SlateHills::new, "calm(30, 1)", x -> x.calm(30, 1));
        says(20, "of like ones the least");
        told(0, () -> on(QUICK, WALL, 3, 58), "calm(1, 0)", x -> x.calm(1, 0));
        told(0, () -> on(QUICK, WALL, 3, 0), "calm(30, 0)", x -> x.calm(30, 0));
        says(20, "the HILL of most SIZE (of like ones the least)");
        told(3, () -> on(PLAIN, WALL, 4, 58, WALL, 0, 58), "calm(1, 1)", x -> x.calm(1, 1));
        told(5, () -> on(PLAIN, WALL, 0, 58, WALL, 5, 58), "calm(1, 1)", x -> x.calm(1, 1));
        told(3, () -> on(PLAIN, WALL, 0, 58, WALL, 5, 59), "calm(1, 1)", x -> x.calm(1, 1));
        says(20, "on each of m DAYS: no more, no fewer");
        Supplier<SlateHills> third = () -> on(PLAIN, WALL, 2, 59, WALL, 9, 56, WALL, 16, 56);
        told(0, third, "calm(1, 1)", x -> x.calm(1, 1));
        told(5, third, "calm(2, 1)", x -> x.calm(2, 1));
        says(20, "the HILL of most SIZE: of seven, and where all have SIZE 0");
        int[] wives = {WIFE, 0, 0, WIFE, 3, 0, WIFE, 6, 0, WIFE, 9, 0, WIFE, 12, 0, WIFE, 15, 0, WIFE, 18, 0};
        int[] mixed = {WALL, 0, 30, SHADE, 3, 31, SPOON, 6, 32, GOAT, 9, 33, WIFE, 12, 34, CHILD, 15, 59, WALL, 19, 40};
        for (int m = 1; m <= 30; m++) {
            dueCalm(m, wives);
            dueCalm(m, mixed);
            dueCalm(m, GOAT, 5, 0, GOAT, 12, 0, WIFE, 19, 0);
        }
        says(20, "the HILL of most SIZE: one that was there once is none");
        SlateHills anew = on(PLAIN, WALL, 3, 0, WALL, 9, 59, WALL, 15, 59);
        anew.island(PLAIN);
        raise(anew, WALL, 3, 58);
        due("calm(1, 1)", anew.calm(1, 1), 0);
        says(20, "the KIND of CLERKS by which .. fewest are lost");
        told(LAMP, () -> on(DEAF, WIFE, 4, 59, WIFE, 15, 41), "calm(6, 0)", x -> x.calm(6, 0));
        told(0, () -> on(DEAF, WIFE, 4, 59, WIFE, 15, 41), "calm(6, 1)", x -> x.calm(6, 1));
    }

    private static int tallest(SlateHills x) {
        int best = 7;
        for (int i = x.count(0) - 1; i >= 0; i--) {
            best = best == 7 || x.of(i, 2) >= x.of(best, 2) ? i : best;
        }
        return best;
    }

    /** CALM beside the same days told one by one, by each clerk. */
    private static void dueCalm(int m, int... hills) {
        int kind = 0;
        int fewest = MOST;
        for (int clerk = 0; clerk <= 5; clerk++) {
            SlateHills x = on(clerk, hills);
            for (int d = 0; d < m; d++) {
                x.day(tallest(x));
            }
            if (x.count(2) < fewest) {
                fewest = x.count(2);
                kind = clerk;
            }
        }
        told(kind, () -> on(PLAIN, hills), "calm(" + m + ", 0)", x -> x.calm(m, 0));
        told(fewest, () -> on(PLAIN, hills), "calm(" + m + ", 1)", x -> x.calm(m, 1));
    }

    // ---- promises 21 to 27: what it was

    private static void seen() {
        says(21, "a HILL. BAD");
        bad(EdgesTest::rich, "seen(-1, 0, 0, 0)", x -> x.seen(-1, 0, 0, 0));
        bad(EdgesTest::rich, "seen(3, 0, 0, 0)", x -> x.seen(3, 0, 0, 0));
        bad(EdgesTest::rich, "seen(7, 0, 0, 0)", x -> x.seen(7, 0, 0, 0));
        bad(SlateHills::new, "seen(0, 0, 0, 0)", x -> x.seen(0, 0, 0, 0));
        says(21, "on DAY t (0 .. 99). BAD");
        bad(EdgesTest::rich, "seen(0, -1, 0, 0)", x -> x.seen(0, -1, 0, 0));
        bad(EdgesTest::rich, "seen(0, 100, 0, 0)", x -> x.seen(0, 100, 0, 0));
        says(21, "smoked x (0 .. 59) high. BAD");
        bad(EdgesTest::rich, "seen(0, 0, -1, 0)", x -> x.seen(0, 0, -1, 0));
        bad(EdgesTest::rich, "seen(0, 0, 60, 0)", x -> x.seen(0, 0, 60, 0));
        says(21, "y (0 .. 99) on the next. BAD");
        bad(EdgesTest::rich, "seen(0, 0, 0, -1)", x -> x.seen(0, 0, 0, -1));
        bad(EdgesTest::rich, "seen(0, 0, 0, 100)", x -> x.seen(0, 0, 0, 100));
        says(21, "SEEN 0 .. 4, as they come: how many there are. FULL: 5.");
        SlateHills x = sevenHills();
        due("seen(0, 0, 0, 0)", x.seen(0, 0, 0, 0), 1);
        due("seen(6, 99, 59, 99)", x.seen(6, 99, 59, 99), 2);
        due("seen(6, 0, 59, 0)", x.seen(6, 0, 59, 0), 3);
        due("seen(0, 99, 0, 99)", x.seen(0, 99, 0, 99), 4);
        due("seen(0, 0, 0, 0), a like one", x.seen(0, 0, 0, 0), 5);
        due("seen(0, 0, 0, 2)", x.seen(0, 0, 0, 2), FULL);
        due("count(6)", x.count(6), 5);
        Supplier<SlateHills> full = () -> {
            SlateHills y = rich();
            y.seen(0, 1, 2, 4);
            y.seen(0, 2, 2, 4);
            y.seen(0, 3, 2, 4);
            return y;
        };
        refused(FULL, FULL, full, "seen(0, 0, 0, 0)", y -> y.seen(0, 0, 0, 0));
        says(21, "Refused .. the first of: BAD, FULL");
        bad(full, "seen(3, 0, 0, 0)", y -> y.seen(3, 0, 0, 0));
        bad(full, "seen(0, 100, 0, 0)", y -> y.seen(0, 100, 0, 0));
    }

    private static SlateHills seenOf(int... rows) {
        SlateHills x = sevenHills();
        for (int i = 0; i + 2 < rows.length; i += 3) {
            x.seen(6, rows[i], rows[i + 1], rows[i + 2]);
        }
        return x;
    }

    private static int kindsOf(int t, int x, int y) {
        int[] grows = {2, (t + 1) % 7 < 3 ? 2 : 4, 2 + x / 10, (t + 1) % 7 < 3 ? 4 : 8, 5 + x / 10, t % 2 == 0 ? 0 : 2};
        int bits = 0;
        for (int kind = 0; kind < 6; kind++) {
            bits += x + grows[kind] == y ? 1 << kind : 0;
        }
        return bits;
    }

    private static void which() {
        says(22, "WHICH, as bits. BAD.");
        bad(EdgesTest::rich, "which(-1)", x -> x.which(-1));
        bad(EdgesTest::rich, "which(3)", x -> x.which(3));
        bad(EdgesTest::sevenHills, "which(7)", x -> x.which(7));
        bad(SlateHills::new, "which(0)", x -> x.which(0));
        says(22, "KINDS by which all SEEN of one are so: none was SEEN");
        told(63, EdgesTest::sevenHills, "which(6)", x -> x.which(6));
        says(22, "all SEEN of one: not of another");
        told(63, () -> seenOf(0, 0, 99), "which(0)", x -> x.which(0));
        told(0, () -> seenOf(0, 0, 99), "which(6)", x -> x.which(6));
        says(22, "(y is x and what it grows by on DAY t and 1)");
        for (int t : new int[] {0, 1, 2, 5, 6, 12, 98, 99}) {
            for (int x : new int[] {0, 9, 10, 49, 50, 59}) {
                for (int y = Math.max(0, x - 1); y <= x + 11; y++) {
                    int[] row = {t, x, y};
                    told(kindsOf(t, x, y), () -> seenOf(row), "which(6) of " + Arrays.toString(row), z -> z.which(6));
                }
            }
        }
        says(22, "all SEEN of one are so: each of five");
        for (int odd = 0; odd < 5; odd++) {
            int[] rows = {1, 0, 2, 1, 5, 7, 1, 20, 22, 1, 30, 32, 1, 59, 61};
            rows[3 * odd + 2]++;
            told(0, () -> seenOf(rows), "which(6), the one numbered " + odd + " being odd", z -> z.which(6));
        }
        told(1 + 2 + 32, () -> seenOf(1, 0, 2, 1, 5, 7, 1, 20, 22, 1, 30, 32, 1, 59, 61), "which(6)", z -> z.which(6));
    }

    private static void next() {
        says(23, "NEXT. BAD.");
        bad(EdgesTest::rich, "next(-1)", x -> x.next(-1));
        bad(EdgesTest::rich, "next(3)", x -> x.next(3));
        bad(EdgesTest::sevenHills, "next(7)", x -> x.next(7));
        bad(SlateHills::new, "next(0)", x -> x.next(0));
        says(23, "none: no KIND. NONE.");
        told(NONE, () -> seenOf(0, 0, 99), "next(6)", x -> x.next(6));
        says(23, "of like ones the least: one KIND");
        told(0, () -> seenOf(2, 59, 67), "next(6)", x -> x.next(6));
        says(23, "by which the most of these KINDS that grow by as much on DAY t are fewest");
        // of all six: SIZE 10 on DAY 3 they grow by 2, 4, 3, 8, 6, 0
        told(1003, EdgesTest::sevenHills, "next(6) of all", x -> x.next(6));
        // WALL, SHADE, CHILD: 2, 4, 0 on DAY 3
        told(3, () -> seenOf(1, 30, 32), "next(6) of WALL, SHADE, CHILD", x -> x.next(6));
        // WALL, SPOON: apart from SIZE 10 on
        told(1000, () -> seenOf(2, 9, 11), "next(6) of WALL, SPOON", x -> x.next(6));
        // WALL, CHILD: apart on DAY 1
        told(1, () -> seenOf(3, 30, 32), "next(6) of WALL, CHILD", x -> x.next(6));
        // SHADE, SPOON: apart of SIZE 0 on DAY 3, the first one on which SHADE grows by 4
        told(3, () -> seenOf(2, 20, 24), "next(6) of SHADE, SPOON", x -> x.next(6));
        // GOAT, SPOON of SIZE 29 on DAY 1: 4 and 4: apart at 0 on DAY 0, 2 and 4
        told(0, () -> seenOf(0, 29, 33), "next(6) of SPOON, GOAT", x -> x.next(6));
    }

    private static void mark() {
        says(24, "on DAY t (0 .. 99). BAD");
        bad(EdgesTest::rich, "mark(-1, 0, 0)", x -> x.mark(-1, 0, 0));
        bad(EdgesTest::rich, "mark(100, 0, 0)", x -> x.mark(100, 0, 0));
        says(24, "SIZE x (0 .. 59). BAD");
        bad(EdgesTest::rich, "mark(0, -1, 0)", x -> x.mark(0, -1, 0));
        bad(EdgesTest::rich, "mark(0, 60, 0)", x -> x.mark(0, 60, 0));
        says(24, "fell by y (0 .. 40). BAD");
        bad(EdgesTest::rich, "mark(0, 0, -1)", x -> x.mark(0, 0, -1));
        bad(EdgesTest::rich, "mark(0, 0, 41)", x -> x.mark(0, 0, 41));
        says(24, "MARKS 0 .. 5, as they come: how many there are. FULL: 6.");
        SlateHills x = new SlateHills();
        int[][] rows = {{0, 0, 0}, {99, 59, 40}, {99, 0, 0}, {0, 59, 0}, {0, 0, 40}, {0, 0, 0}};
        for (int n = 0; n < rows.length; n++) {
            due("mark" + Arrays.toString(rows[n]), x.mark(rows[n][0], rows[n][1], rows[n][2]), n + 1);
        }
        due("mark(0, 0, 8)", x.mark(0, 0, 8), FULL);
        due("count(7)", x.count(7), 6);
        Supplier<SlateHills> full = () -> {
            SlateHills y = rich();
            for (int n = 0; n < 4; n++) {
                y.mark(n, n, n);
            }
            return y;
        };
        refused(FULL, FULL, full, "mark(0, 0, 8)", y -> y.mark(0, 0, 8));
        says(24, "Refused .. the first of: BAD, FULL");
        bad(full, "mark(100, 0, 0)", y -> y.mark(100, 0, 0));
        bad(full, "mark(0, 0, 41)", y -> y.mark(0, 0, 41));
    }

    private static void forget() {
        says(25, "No SEEN ones (0), MARKS (1). BAD.");
        bad(EdgesTest::rich, "forget(-1)", x -> x.forget(-1));
        bad(EdgesTest::rich, "forget(2)", x -> x.forget(2));
        says(25, "how many there were: none");
        told(0, SlateHills::new, "forget(0)", x -> x.forget(0));
        told(0, SlateHills::new, "forget(1)", x -> x.forget(1));
        says(25, "how many there were: all of a full row, which may be filled again");
        SlateHills x = seenOf(0, 0, 0, 0, 0, 0, 0, 0, 0, 0, 0, 0, 0, 0, 0);
        due("seen(0, 0, 0, 0)", x.seen(0, 0, 0, 0), FULL);
        due("forget(0)", x.forget(0), 5);
        due("forget(0) again", x.forget(0), 0);
        due("seen(0, 0, 0, 2)", x.seen(0, 0, 0, 2), 1);
        due("which(0)", x.which(0), 7);
        due("which(6)", x.which(6), 63);
        for (int n = 1; n <= 6; n++) {
            due("mark(0, 0, 40)", x.mark(0, 0, 40), n);
        }
        due("forget(1)", x.forget(1), 6);
        due("kinds()", x.kinds(), 63);
        due("mark(0, 0, 4)", x.mark(0, 0, 4), 1);
        due("kinds()", x.kinds(), 18);
        says(25, "No SEEN ones (0): MARKS stay; MARKS (1): SEEN ones stay");
        due("forget(0)", x.forget(0), 1);
        due("count(7)", x.count(7), 1);
        SlateHills y = rich();
        due("forget(1)", y.forget(1), 2);
        due("count(6)", y.count(6), 2);
        due("count(8)", y.count(8), 3);
    }

    private static SlateHills marked(int... rows) {
        SlateHills x = new SlateHills();
        for (int i = 0; i + 2 < rows.length; i += 3) {
            x.mark(rows[i], rows[i + 1], rows[i + 2]);
        }
        return x;
    }

    private static int clerksOf(int t, int x, int y) {
        int[] falls = {8, 4, 8 + x / 5, 12 + x / 5, x < 40 ? 4 : 0, t % 3 == 0 ? 16 : 8};
        int bits = 0;
        for (int kind = 0; kind < 6; kind++) {
            bits += falls[kind] == y ? 1 << kind : 0;
        }
        return bits;
    }

    private static void kindsAndLook() {
        says(26, "KINDS (bits) of CLERKS by which all MARKS are so: no MARKS");
        told(63, SlateHills::new, "kinds()", SlateHills::kinds);
        says(26, "on DAY t SIZE x fell by y .. (as the KIND says, SIZE going below 0 or not)");
        for (int t : new int[] {0, 1, 2, 3, 98, 99}) {
            for (int x : new int[] {0, 4, 5, 39, 40, 59}) {
                for (int y = 0; y <= 24; y++) {
                    int[] row = {t, x, y};
                    told(clerksOf(t, x, y), () -> marked(row), "kinds() of " + Arrays.toString(row), SlateHills::kinds);
                }
            }
        }
        says(26, "all MARKS are so: each of six");
        for (int odd = 0; odd < 6; odd++) {
            int[] rows = {1, 0, 4, 1, 5, 4, 1, 20, 4, 1, 30, 4, 1, 35, 4, 1, 39, 4};
            rows[3 * odd + 2]++;
            told(0, () -> marked(rows), "kinds(), the one numbered " + odd + " being odd", SlateHills::kinds);
        }
        told(18, () -> marked(1, 0, 4, 1, 5, 4, 1, 20, 4, 1, 30, 4, 1, 35, 4, 1, 39, 4), "kinds()", SlateHills::kinds);
        says(27, "none: no KIND. NONE.");
        told(NONE, () -> marked(0, 0, 40), "look()", SlateHills::look);
        says(27, "of like ones the least: one KIND");
        told(0, () -> marked(0, 0, 16), "look()", SlateHills::look);
        says(27, "by which the most of these KINDS by which it falls by as much are fewest");
        // of all six: 40 makes OLD and DEAF differ, but LAMP then falls by 16 as QUICK does, so 45
        told(4500, SlateHills::new, "look() of all", SlateHills::look);
        told(4000, () -> marked(0, 0, 4), "look() of OLD, DEAF", SlateHills::look);
        told(500, () -> marked(1, 0, 8), "look() of PLAIN, LAMP, QUICK", SlateHills::look);
        told(0, () -> marked(1, 5, 8), "look() of PLAIN, QUICK", SlateHills::look);
        told(0, () -> marked(3, 20, 16), "look() of GENTLE, QUICK", SlateHills::look);
    }

    // ---- promises 28 to 31

    private static void waiting() {
        says(28, "BAD: -10.");
        refused(BAD, BAD_ASKED, EdgesTest::rich, "waiting(-2)", x -> x.waiting(-2));
        refused(BAD, BAD_ASKED, SlateHills::new, "waiting(-5)", x -> x.waiting(-5));
        says(28, "-5: not so many.");
        told(1, SlateHills::new, "waiting(-1) without HILLS", x -> x.waiting(-1));
        told(77, SlateHills::new, "waiting(0) without HILLS", x -> x.waiting(0));
        told(NOT_SO_MANY, SlateHills::new, "waiting(1) without HILLS", x -> x.waiting(1));
        Supplier<SlateHills> none = () -> on(PLAIN, WALL, 4, 50, WALL, 15, 50);
        told(0, none, "waiting(-1) where none rests", x -> x.waiting(-1));
        told(NOT_SO_MANY, none, "waiting(0) where none rests", x -> x.waiting(0));
        says(28, "(rising): i, j of the HILLS, and 7: all of seven rest");
        told(64, EdgesTest::sevenHills, "waiting(-1)", x -> x.waiting(-1));
        for (int k = 0; k < 64; k++) {
            int kth = k;
            told(10 * (k / 8) + k % 8, EdgesTest::sevenHills, "waiting(" + k + ")", x -> x.waiting(kth));
        }
        told(NOT_SO_MANY, EdgesTest::sevenHills, "waiting(64)", x -> x.waiting(64));
        says(28, "10 more ahead of it");
        told(4, () -> on(DEAF, WALL, 10, 47), "waiting(-1) of 47: 59", x -> x.waiting(-1));
        told(2, () -> on(DEAF, WALL, 10, 48), "waiting(-1) of 48: 60", x -> x.waiting(-1));
        told(0, () -> on(DEAF, WALL, 10, 48), "waiting(0) of 48", x -> x.waiting(0));
        told(7, () -> oneWall(48), "waiting(1) of 48", x -> x.waiting(1));
        says(28, "(SIZE 59 at most)");
        for (int size = 49; size <= 59; size++) {
            int s = size;
            told(4, () -> on(PLAIN, CHILD, 10, s), "waiting(-1) of a CHILD of " + s, x -> x.waiting(-1));
        }
        told(4, () -> on(PLAIN, CHILD, 10, 40), "waiting(-1) of a CHILD of 40", x -> x.waiting(-1));
        told(2, () -> oneWall(59), "waiting(-1) of 59", x -> x.waiting(-1));
        told(0, () -> oneWall(59), "waiting(0) of 59", x -> x.waiting(0));
        told(7, () -> oneWall(59), "waiting(1) of 59", x -> x.waiting(1));
        says(28, "pairs .. that rest (no other i loses fewer against j, no other j more against i)");
        dueWaiting(PLAIN, WALL, 4, 50, WALL, 15, 50);
        dueWaiting(PLAIN, WALL, 0, 48, WALL, 10, 58);
        dueWaiting(PLAIN, WALL, 10, 58, WALL, 0, 48);
        dueWaiting(OLD, WALL, 2, 58, WALL, 8, 48, WALL, 15, 49);
        dueWaiting(DEAF, WALL, 1, 48, WALL, 4, 44, WALL, 7, 43, WALL, 19, 50);
        dueWaiting(PLAIN, WALL, 0, 50, WALL, 5, 50, WALL, 10, 50, WALL, 15, 50);
        dueWaiting(LAMP, WALL, 3, 59, CHILD, 4, 35, WIFE, 10, 43, GOAT, 13, 34, WALL, 17, 48);
        dueWaiting(QUICK, WALL, 0, 47, SHADE, 3, 47, SPOON, 6, 47, GOAT, 9, 47, WIFE, 12, 47, CHILD, 15, 47, WALL, 19, 48);
        says(28, "VINEYARDS that are lost on that DAY: no more than those");
        Supplier<SlateHills> harmed = () -> {
            SlateHills x = oneWall(58);
            x.day(7);
            return x;
        };
        told(4, harmed, "waiting(-1)", x -> x.waiting(-1));
    }

    private static int lossBetween(int clerk, int i, int j, int... hills) {
        int[] taller = hills.clone();
        if (j < 7) {
            taller[3 * j + 2] = Math.min(59, taller[3 * j + 2] + 10);
        }
        return on(clerk, taller).day(i);
    }

    /** WAITING beside the days of all pairs, each on an island of its own. */
    private static void dueWaiting(int clerk, int... hills) {
        List<Integer> names = new ArrayList<>();
        for (int i = 0; i < hills.length / 3; i++) {
            names.add(i);
        }
        names.add(7);
        List<Integer> rest = new ArrayList<>();
        for (int i : names) {
            for (int j : names) {
                int here = lossBetween(clerk, i, j, hills);
                boolean rests = true;
                for (int other : names) {
                    rests &= lossBetween(clerk, other, j, hills) >= here && lossBetween(clerk, i, other, hills) <= here;
                }
                if (rests) {
                    rest.add(10 * i + j);
                }
            }
        }
        String island = " of " + Arrays.toString(hills);
        told(rest.size(), () -> on(clerk, hills), "waiting(-1)" + island, x -> x.waiting(-1));
        for (int k = 0; k <= rest.size(); k++) {
            int kth = k;
            told(k < rest.size() ? rest.get(k) : NOT_SO_MANY, () -> on(clerk, hills), "waiting(" + k + ")" + island,
                    x -> x.waiting(kth));
        }
    }

    private static void dueChance(SlateHills x, int n, int lost, int c, long above, long below) {
        String call = "chance(" + n + ", " + lost + ", " + c + ")";
        due(call, x.chance(n, lost, c), 1);
        due("part(0) behind " + call, x.part(0), above);
        due("part(1) behind " + call, x.part(1), below);
    }

    private static void chance() {
        says(29, "CHANCE of x (0 .. 50). BAD.");
        bad(EdgesTest::rich, "chance(1, -1, 5)", x -> x.chance(1, -1, 5));
        bad(EdgesTest::rich, "chance(1, 51, 5)", x -> x.chance(1, 51, 5));
        says(29, "in n (0 .. 4) DAYS. BAD.");
        bad(EdgesTest::rich, "chance(-1, 1, 5)", x -> x.chance(-1, 1, 5));
        bad(EdgesTest::rich, "chance(5, 1, 5)", x -> x.chance(5, 1, 5));
        says(29, "by c of 10 (0 .. 10). BAD.");
        bad(EdgesTest::rich, "chance(1, 1, -1)", x -> x.chance(1, 1, -1));
        bad(EdgesTest::rich, "chance(1, 1, 11)", x -> x.chance(1, 1, 11));
        SlateHills x = oneWall(58);
        says(29, "c 0: never, c 10: always");
        dueChance(x, 1, 1, 0, 1, 1);
        dueChance(x, 1, 1, 10, 0, 1);
        dueChance(x, 4, 5, 0, 1, 1);
        dueChance(x, 4, 5, 10, 0, 1);
        says(29, "in n (0 ..): no DAY");
        dueChance(x, 0, 0, 5, 1, 1);
        dueChance(x, 0, 1, 5, 0, 1);
        dueChance(x, 0, 50, 0, 0, 1);
        says(29, "that x or more are lost behind them");
        dueChance(x, 1, 0, 5, 1, 1);
        dueChance(x, 1, 5, 1, 9, 10);
        dueChance(x, 1, 6, 1, 0, 1);
        SlateHills wide = on(PLAIN, WALL, 2, 58, WALL, 7, 58, WALL, 12, 1);
        for (int c = 0; c < 20; c++) {
            wide.vines(c, 5);
        }
        dueChance(wide, 1, 50, 3, 7, 10);
        wide.vines(9, 4);
        dueChance(wide, 1, 50, 3, 0, 1);
        dueChance(wide, 1, 49, 3, 7, 10);
        says(29, "lowest terms, below above 0");
        int[][] terms = {{1, 9, 10}, {2, 4, 5}, {3, 7, 10}, {4, 3, 5}, {5, 1, 2}, {6, 2, 5}, {7, 3, 10}, {8, 1, 5}, {9, 1, 10}};
        for (int[] term : terms) {
            dueChance(x, 1, 1, term[0], term[1], term[2]);
        }
        dueChance(oneWall(52), 4, 1, 3, 2401, 10000);
        dueChance(oneWall(52), 4, 1, 5, 1, 16);
        dueChance(oneWall(52), 4, 1, 9, 1, 10000);
        dueChance(oneWall(52), 4, 1, 1, 6561, 10000);
        dueChance(oneWall(51), 4, 1, 1, 0, 1);
        says(29, "none: no HILLS");
        dueChance(new SlateHills(), 4, 0, 10, 1, 1);
        dueChance(new SlateHills(), 4, 1, 10, 0, 1);
        says(29, "the HILL of most SIZE is VISITED (of like ones the least)");
        dueChance(on(PLAIN, WALL, 0, 58, WALL, 10, 58), 1, 5, 10, 1, 1);
        dueChance(on(PLAIN, WALL, 0, 58, WALL, 10, 59), 1, 5, 10, 0, 1);
        dueChance(on(PLAIN, WALL, 10, 58, WALL, 0, 58), 1, 5, 10, 0, 1);
        says(29, "on each of them, apart");
        for (int n = 0; n <= 4; n++) {
            for (int lost = 0; lost <= 20; lost += n < 2 ? 1 : 3) {
                dueChanceByDays(n, lost, 3, PLAIN, WALL, 2, 56, WALL, 8, 54, WALL, 14, 57);
                dueChanceByDays(n, lost, 5, OLD, WALL, 0, 58, GOAT, 3, 41, WIFE, 10, 50, SPOON, 19, 53);
                dueChanceByDays(n, lost, 9, DEAF, WALL, 0, 59, SHADE, 3, 43, SPOON, 6, 30, GOAT, 9, 50, WIFE, 12, 44,
                        CHILD, 15, 58, WALL, 19, 57);
                dueChanceByDays(n, lost, 4, QUICK, WALL, 9, 0);
            }
        }
        says(29, "CHANCE is THE FRACTION; nothing else is changed");
        Supplier<SlateHills> whole = () -> {
            SlateHills y = rich();
            y.chance(0, 0, 0);
            return y;
        };
        told(1, whole, "chance(4, 0, 5): 1 by 1 again", y -> y.chance(4, 0, 5));
        dueChance(whole.get(), 0, 1, 0, 0, 1);
    }

    /** CHANCE beside the days told one by one, visited and not in each way that there is. */
    private static void dueChanceByDays(int n, int lost, int c, int clerk, int... hills) {
        long above = 0;
        long below = 1;
        for (int way = 0; way < 1 << n; way++) {
            SlateHills x = on(clerk, hills);
            long weight = 1;
            for (int d = 0; d < n; d++) {
                boolean visits = (way >> d & 1) == 1;
                weight *= visits ? c : 10 - c;
                x.day(visits ? tallest(x) : 7);
            }
            above += x.count(2) >= lost ? weight : 0;
        }
        for (int d = 0; d < n; d++) {
            below *= 10;
        }
        long gcd = BigInteger.valueOf(above).gcd(BigInteger.valueOf(below)).longValue();
        dueChance(on(clerk, hills), n, lost, c, above / gcd, below / gcd);
    }

    private static void years() {
        says(30, "YEARS by a SEED (0 .. 999999). BAD.");
        bad(EdgesTest::rich, "years(-1, 0)", x -> x.years(-1, 0));
        bad(EdgesTest::rich, "years(1000000, 0)", x -> x.years(1000000, 0));
        says(30, "n (0 .. 60). BAD.");
        bad(EdgesTest::rich, "years(0, -1)", x -> x.years(0, -1));
        bad(EdgesTest::rich, "years(0, 61)", x -> x.years(0, 61));
        says(30, "n (0 ..): no DAY");
        told(0, () -> oneWall(59), "years(0, 0)", x -> x.years(0, 0));
        told(0, () -> oneWall(59), "years(999999, 0)", x -> x.years(999999, 0));
        says(30, "n (.. 60): the last DAY, too");
        told(0, SlateHills::new, "years(0, 60)", x -> x.years(0, 60));
        dueYearsOfSixty();
        says(30, "X times 1103515245 and 12345, by 2147483648 what is left over; X by 65536 (cut), by 8 left over");
        for (int seed : new int[] {0, 1, 2, 3, 7, 65536, 99999, 500000, 999998, 999999}) {
            for (int n : new int[] {1, 2, 9, 59, 60}) {
                dueYears(seed, n, 7);
                dueYears(seed, n, 3);
            }
        }
    }

    /** A seed by which something is lost on the 60th day, as the days told one by one say. */
    private static void dueYearsOfSixty() {
        int found = 0;
        for (int seed = 0; seed < 2000 && found < 3; seed++) {
            int without = lostBySeed(seed, 59, 1);
            int with = lostBySeed(seed, 60, 1);
            if (with != without) {
                found++;
                due("years(" + seed + ", 59)", someHills(1).years(seed, 59), without);
                due("years(" + seed + ", 60)", someHills(1).years(seed, 60), with);
            }
        }
        due("seeds with a loss on the 60th DAY", found, 3);
    }

    private static SlateHills someHills(int hills) {
        SlateHills x = on(OLD);
        int[] cells = {1, 4, 7, 10, 13, 16, 19};
        for (int i = 0; i < hills; i++) {
            x.hill(i % 6, cells[i], 8 * i);
        }
        return x;
    }

    /** Years beside the same days told one by one. */
    private static void dueYears(int seed, int n, int hills) {
        told(lostBySeed(seed, n, hills), () -> someHills(hills), "years(" + seed + ", " + n + ")", x -> x.years(seed, n));
    }

    private static int lostBySeed(int seed, int n, int hills) {
        SlateHills y = someHills(hills);
        BigInteger x = BigInteger.valueOf(seed);
        int lost = 0;
        for (int d = 0; d < n; d++) {
            x = x.multiply(BigInteger.valueOf(1103515245)).add(BigInteger.valueOf(12345)).mod(BigInteger.TWO.pow(31));
            int named = x.divide(BigInteger.valueOf(65536)).mod(BigInteger.valueOf(8)).intValue();
            lost += y.day(named < hills ? named : 7);
        }
        return lost;
    }

    private static void part() {
        says(31, "THE FRACTION: above (0), below (1). BAD.");
        bad(EdgesTest::rich, "part(-1)", x -> x.part(-1));
        bad(EdgesTest::rich, "part(2)", x -> x.part(2));
        told(49, EdgesTest::rich, "part(0)", x -> x.part(0));
        told(100, EdgesTest::rich, "part(1)", x -> x.part(1));
        told(0, SlateHills::new, "part(0)", x -> x.part(0));
        told(1, SlateHills::new, "part(1)", x -> x.part(1));
        says(31, "THE FRACTION: a refused CHANCE leaves it");
        SlateHills x = rich();
        x.chance(5, 0, 0);
        due("part(0)", x.part(0), 49);
    }

    // ---- promises 32 to 36

    private static void images() {
        says(32, "IMAGES 0, 1. BAD.");
        bad(EdgesTest::rich, "image(-1)", x -> x.image(-1));
        bad(EdgesTest::rich, "image(2)", x -> x.image(2));
        says(33, "IMAGES 0, 1. BAD.");
        bad(EdgesTest::rich, "from(-1)", x -> x.from(-1));
        bad(EdgesTest::rich, "from(2)", x -> x.from(2));
        bad(SlateHills::new, "from(2)", x -> x.from(2));
        says(33, "NO: none was kept.");
        refused(NO, NO, SlateHills::new, "from(0)", x -> x.from(0));
        refused(NO, NO, SlateHills::new, "from(1)", x -> x.from(1));
        Supplier<SlateHills> first = () -> {
            SlateHills x = oneWall(3);
            x.image(0);
            return x;
        };
        refused(NO, NO, first, "from(1) where 0 was kept", x -> x.from(1));
        says(33, "It goes on from an IMAGE: 1.");
        SlateHills y = first.get();
        y.from(0);
        due("from(1) behind from(0)", y.from(1), NO);
        due("from(0) again", y.from(0), 1);
        due("hill(0, 0, 0)", y.hill(0, 0, 0), 1);
        due("from(0)", y.from(0), 1);
        due("count(0)", y.count(0), 1);
        says(32, "An IMAGE is kept: of a new object, too, and in the place of one that was");
        SlateHills z = new SlateHills();
        due("image(1)", z.image(1), 1);
        raise(z, WALL, 0, 1, WALL, 1, 1);
        due("image(0)", z.image(0), 1);
        due("from(1)", z.from(1), 1);
        due("count(0)", z.count(0), 0);
        due("image(0)", z.image(0), 1);
        due("from(0)", z.from(0), 1);
        due("count(0)", z.count(0), 0);
        imagesKeep();
    }

    private static void imagesKeep() {
        says(33, "IMAGES 0, 1 keep all but them, THE TEXT, THE FRACTION and STATUS");
        SlateHills x = rich();
        x.image(0);
        write(x, "day");
        x.chance(0, 0, 0);
        x.count(10);
        x.undo();
        x.from(7);
        x.island(OLD);
        raise(x, WALL, 3, 3);
        x.image(1);
        due("from(0)", x.from(0), 1);
        due("count(9)", x.count(9), 3);
        due("part(0)", x.part(0), 1);
        due("status(0)", x.status(0), 2);
        due("of(2, 2)", x.of(2, 2), rich().of(2, 2));
        due("count(5)", x.count(5), GENTLE);
        due("count(6)", x.count(6), 2);
        due("count(7)", x.count(7), 2);
        due("from(1): the other is kept still", x.from(1), 1);
        due("count(0)", x.count(0), 1);
        due("count(8)", x.count(8), 0);
        imagesKeepRows();
        says(33, "what may be undone they keep");
        SlateHills y = rich();
        List<Long> steps = new ArrayList<>();
        unravelSteps(y, steps);
        SlateHills z = rich();
        z.image(1);
        idle(z, 10);
        z.from(1);
        List<Long> kept = new ArrayList<>();
        unravelSteps(z, kept);
        due("undo() from the image", steps.equals(kept) ? 1 : 0, 1);
        due("count(8) at the end", z.count(8), 0);
        z.from(1);
        due("count(8) from it again", z.count(8), 3);
        says(33, "what may be undone they keep: all 8, and none");
        SlateHills full = oneWall(0);
        full.image(0);
        idle(full, 11);
        full.image(1);
        full.from(0);
        due("undo()", full.undo(), NO);
        full.from(1);
        for (int d = 10; d >= 3; d--) {
            due("undo()", full.undo(), d);
            due("of(0, 2)", full.of(0, 2), 2 * d);
        }
        due("undo() of no more", full.undo(), NO);
    }

    /** Full rows of SEEN and MARKS, others in their place, and the full ones again. */
    private static void imagesKeepRows() {
        says(33, "IMAGES 0, 1 keep all: five SEEN, six MARKS");
        SlateHills x = sevenHills();
        for (int n = 0; n < 6; n++) {
            x.seen(n % 7, n, n + 10, n + 20);
            x.mark(n + 30, n + 40, n);
        }
        long full = x.digest();
        x.image(0);
        x.forget(0);
        x.forget(1);
        for (int n = 0; n < 6; n++) {
            x.seen(6, 99, 59, 99 - n);
            x.mark(99, 59, 40 - n);
        }
        long other = x.digest();
        x.image(1);
        due("from(0)", x.from(0), 1);
        due("digest()", x.digest(), full);
        due("from(1)", x.from(1), 1);
        due("digest()", x.digest(), other);
        says(33, "IMAGES 0, 1 keep all: none of SEEN, MARKS, HILLS");
        SlateHills y = new SlateHills();
        long none = y.digest();
        y.image(0);
        raise(y, WALL, 0, 1);
        y.seen(0, 0, 0, 2);
        y.mark(0, 0, 8);
        y.clerk(OLD);
        y.day(7);
        due("from(0)", y.from(0), 1);
        due("digest()", y.digest(), none);
        due("seen(0, 0, 0, 2)", y.seen(0, 0, 0, 2), BAD);
        due("mark(0, 0, 8)", y.mark(0, 0, 8), 1);
    }

    private static void status() {
        says(34, "-1: another what (counts as BAD).");
        refused(BAD, NONE, EdgesTest::rich, "status(-1)", x -> x.status(-1));
        refused(BAD, NONE, EdgesTest::rich, "status(3)", x -> x.status(3));
        says(34, "how many calls were refused as BAD, NO, FULL");
        SlateHills x = sevenHills();
        for (int n = 1; n <= 20; n++) {
            x.hill(6, 0, 0);
            due("status(0)", x.status(0), n);
            x.hill(0, 0, 0);
            due("status(1)", x.status(1), n);
            x.hill(0, 1, 0);
            due("status(2)", x.status(2), n);
        }
        says(34, "each answer told so below is such a one: -5, NONE, a FAULT are not");
        told(NOT_SO_MANY, EdgesTest::rich, "plan(1, 1)", y -> y.plan(1, 1));
        told(NOT_SO_MANY, EdgesTest::rich, "waiting(64)", y -> y.waiting(64));
        told(NONE, SlateHills::new, "plan(1, 0)", y -> y.plan(1, 0));
        told(NONE, SlateHills::new, "askFirst(1, 0)", y -> y.askFirst(1, 0));
        told(NONE, () -> seenOf(0, 0, 99), "next(6)", y -> y.next(6));
        told(NONE, () -> marked(0, 0, 40), "look()", SlateHills::look);
        told(-10, SlateHills::new, "read()", SlateHills::read);
        says(34, "STATUS stays behind island, read, from");
        x.image(0);
        x.island(0);
        x.from(0);
        write(x, "island 0;");
        due("read()", x.read(), 1);
        for (int r = 0; r < 3; r++) {
            due("status(" + r + ")", x.status(r), 20);
        }
    }

    private static void count() {
        says(35, "How many: 0 .. 9. BAD.");
        bad(EdgesTest::rich, "count(-1)", x -> x.count(-1));
        bad(EdgesTest::rich, "count(10)", x -> x.count(10));
        says(35, "0 HILLS .. 9 bytes of THE TEXT: the most");
        SlateHills x = on(QUICK);
        for (int i = 0; i < 7; i++) {
            x.hill(WALL, i, 59);
        }
        for (int c = 0; c < 20; c++) {
            x.vines(c, 9);
        }
        for (int n = 0; n < 9; n++) {
            x.seen(n % 7, n, n, n);
            x.mark(n, n, n);
        }
        write(x, " ".repeat(151));
        int[] counts = {7, 180, 0, 0, 7 * 59, QUICK, 5, 6, 0, 150};
        for (int what = 0; what < counts.length; what++) {
            due("count(" + what + ")", x.count(what), counts[what]);
        }
        idle(x, 9);
        int[] then = {7, 180 - 81, 81, 9, 7 * 16, QUICK, 5, 6, 8, 150};
        for (int what = 0; what < then.length; what++) {
            due("count(" + what + ") behind 9 DAYS", x.count(what), then[what]);
        }
        says(35, "2 HARM: what is lost again and again");
        SlateHills y = oneWall(58);
        for (int n = 1; n <= 6; n++) {
            for (int c = 8; c <= 12; c++) {
                y.vines(c, 9);
            }
            while (y.of(0, 2) < 58) {
                y.day(7);
            }
            due("day(7)", y.day(7), 45);
            due("count(2)", y.count(2), 45 * n);
        }
    }

    private static long mixed(long... all) {
        BigInteger h = BigInteger.valueOf(1877);
        for (long v : all) {
            h = h.multiply(BigInteger.valueOf(31)).add(BigInteger.valueOf(v));
        }
        return h.longValue();
    }

    private static void digest() {
        says(36, "h = 1877; then h = 31 h + v: beyond what a long holds, with nothing of HILLS, SEEN, MARKS");
        due("digest() of a new object", new SlateHills().digest(), mixed(0, 20, 0, 0, 0, 0, 0, 0, 0, 0,
                1, 1, 1, 1, 1, 1, 1, 1, 1, 1, 1, 1, 1, 1, 1, 1, 1, 1, 1, 1, 0, 1));
        says(36, "count(0) to count(9); of HILLS KIND, CELL, SIZE; VINEYARDS; of SEEN i, t, x, y; of MARKS t, x, y; THE FRACTION");
        SlateHills x = on(LAMP, WALL, 10, 58, CHILD, 2, 7);
        x.vines(19, 5);
        x.chance(1, 1, 3);
        x.seen(1, 99, 59, 98);
        x.seen(0, 1, 2, 3);
        x.mark(9, 8, 7);
        x.mark(6, 5, 4);
        x.day(7);
        x.type(0);
        due("digest()", x.digest(), mixed(2, 19, 5, 1, 7, LAMP, 2, 2, 1, 1, WALL, 10, 0, CHILD, 2, 7,
                1, 1, 1, 1, 1, 1, 1, 1, 0, 0, 0, 0, 0, 1, 1, 1, 1, 1, 1, 5,
                1, 99, 59, 98, 0, 1, 2, 3, 9, 8, 7, 6, 5, 4, 7, 10));
        says(36, "digest: what was forgotten is no part of it");
        x.forget(0);
        x.forget(1);
        due("digest()", x.digest(), mixed(2, 19, 5, 1, 7, LAMP, 0, 0, 1, 1, WALL, 10, 0, CHILD, 2, 7,
                1, 1, 1, 1, 1, 1, 1, 1, 0, 0, 0, 0, 0, 1, 1, 1, 1, 1, 1, 5, 7, 10));
        says(36, "digest: nothing is changed by it");
        SlateHills y = rich();
        due("digest() twice", y.digest() - y.digest(), 0);
        dueSame("all behind digest()", y, rich());
        says(36, "digest: all seven HILLS, five SEEN, six MARKS");
        fullDigest();
    }

    private static void fullDigest() {
        SlateHills x = new SlateHills();
        List<Long> all = new ArrayList<>(List.of(7L, 20L, 0L, 0L, 21L, 0L, 5L, 6L, 0L, 0L));
        for (int i = 0; i < 7; i++) {
            x.hill(i % 6, 19 - i, i);
            all.addAll(List.of((long) i % 6, 19L - i, (long) i));
        }
        for (int c = 0; c < 20; c++) {
            all.add(1L);
        }
        for (int n = 0; n < 5; n++) {
            x.seen(6 - n, n, n + 1, n + 2);
            all.addAll(List.of(6L - n, (long) n, n + 1L, n + 2L));
        }
        for (int n = 0; n < 6; n++) {
            x.mark(n, n + 3, n + 5);
            all.addAll(List.of((long) n, n + 3L, n + 5L));
        }
        all.addAll(List.of(0L, 1L));
        due("digest()", x.digest(), mixed(all.stream().mapToLong(v -> v).toArray()));
    }

    public static void main(String[] args) {
        newObject();
        numbersFarOut();
        island();
        clerk();
        vines();
        hillNumbers();
        hillPlaces();
        typed();
        textEnds();
        textWords();
        textFigures();
        textNumbers();
        textHillsAndDays();
        textRead();
        dayNumbers();
        dayGrows();
        dayFalls();
        dayGoesOff();
        dayAtTheEnds();
        daySpreads();
        putBack();
        undo();
        ofAndHas();
        highGoesLost();
        chain();
        beyondTheLastDay();
        planNumbers();
        planRows();
        askFirst();
        calm();
        seen();
        which();
        next();
        mark();
        forget();
        kindsAndLook();
        waiting();
        chance();
        years();
        part();
        images();
        status();
        count();
        digest();
        // what other objects did is nothing to a new one
        newObject();
        says(0, "every promise has a test of its edges");
        promises.remove(0);
        due("promises with tests", promises.size(), 36);
        System.out.println(wrong == 0 ? "every edge is as told" : wrong + " answers are not as told");
        if (wrong != 0) {
            System.exit(1);
        }
    }
}
