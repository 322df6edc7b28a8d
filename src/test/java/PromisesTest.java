import java.math.BigInteger;
import java.util.Arrays;

/** Each promise by answers worked out by hand: ordinary inputs, the edges that the document names, wrong inputs. */
public final class PromisesTest {
    private static final int NONE = -1, BAD = -2, NO = -3, FULL = -4;
    private static final int WALL = 0, SHADE = 1, SPOON = 2, GOAT = 3, WIFE = 4, CHILD = 5;
    private static final int PLAIN = 0, OLD = 1, LAMP = 2, GENTLE = 3, DEAF = 4, QUICK = 5;
    private static int wrong = 0;

    private static void due(int promise, String call, long got, long want) {
        if (got != want) {
            wrong++;
            System.out.println("promise " + promise + ": " + call + " answered " + got + ", due is " + want);
        }
    }

    /** An island of a clerk and hills, told by kind, cell and size each. */
    private static SlateHills on(int clerk, int... hills) {
        SlateHills x = new SlateHills();
        x.island(clerk);
        for (int i = 0; i + 2 < hills.length; i += 3) {
            x.hill(hills[i], hills[i + 1], hills[i + 2]);
        }
        return x;
    }

    /** The same, with its hills told behind some days. */
    private static SlateHills onDay(int day, int clerk, int... hills) {
        SlateHills x = on(clerk);
        idle(x, day);
        for (int i = 0; i + 2 < hills.length; i += 3) {
            x.hill(hills[i], hills[i + 1], hills[i + 2]);
        }
        return x;
    }

    private static void idle(SlateHills x, int days) {
        for (int d = 0; d < days; d++) {
            x.day(7);
        }
    }

    private static void write(SlateHills x, String text) {
        x.clear();
        for (int i = 0; i < text.length(); i++) {
            x.type(text.charAt(i));
        }
    }

    private static SlateHills told(String text) {
        SlateHills x = new SlateHills();
        write(x, text);
        x.read();
        return x;
    }

    private static void dueRead(String text, int want) {
        SlateHills x = new SlateHills();
        write(x, text);
        due(8, "read() of \"" + text + "\"", x.read(), want);
    }

    /** The digest as promise 36 tells it, from the other answers and from what was seen and marked. */
    private static long digestOf(SlateHills x, int[] seen, int[] marks) {
        long h = 1877;
        for (int what = 0; what <= 9; what++) {
            h = 31 * h + x.count(what);
        }
        for (int i = 0; i < x.count(0); i++) {
            for (int what = 0; what <= 2; what++) {
                h = 31 * h + x.of(i, what);
            }
        }
        for (int c = 0; c < 20; c++) {
            h = 31 * h + x.has(c);
        }
        for (int v : seen) {
            h = 31 * h + v;
        }
        for (int v : marks) {
            h = 31 * h + v;
        }
        h = 31 * h + x.part(0);
        return 31 * h + x.part(1);
    }

    private static void dueDigest(int promise, String where, SlateHills x, int[] seen, int[] marks) {
        due(promise, "digest() " + where, x.digest(), digestOf(x, seen, marks));
    }

    private static final int[] EMPTY = {};

    private static void newObject() {
        SlateHills x = new SlateHills();
        int[] counts = {0, 20, 0, 0, 0, 0, 0, 0, 0, 0};
        for (int what = 0; what < counts.length; what++) {
            due(1, "count(" + what + ")", x.count(what), counts[what]);
        }
        for (int c = 0; c < 20; c++) {
            due(1, "has(" + c + ")", x.has(c), 1);
        }
        due(1, "part(0)", x.part(0), 0);
        due(1, "part(1)", x.part(1), 1);
        due(1, "status(0)", x.status(0), 0);
        due(1, "status(1)", x.status(1), 0);
        due(1, "status(2)", x.status(2), 0);
        due(1, "undo()", x.undo(), NO);
        due(1, "from(0)", x.from(0), NO);
        due(1, "from(1)", x.from(1), NO);
        due(1, "read()", x.read(), -10);
    }

    private static void island() {
        SlateHills x = on(OLD, WALL, 3, 5, GOAT, 9, 58);
        x.vines(0, 9);
        x.seen(0, 0, 0, 2);
        x.mark(0, 0, 8);
        x.day(7);
        x.type(105);
        x.chance(1, 0, 5);
        x.image(0);
        x.hill(6, 0, 0);
        due(2, "island(5)", x.island(5), 2);
        int[] counts = {0, 20, 0, 0, 0, 5, 0, 0, 0, 1};
        for (int what = 0; what < counts.length; what++) {
            due(2, "count(" + what + ") behind island(5)", x.count(what), counts[what]);
        }
        due(2, "part(0) behind island(5)", x.part(0), 1);
        due(2, "status(0) behind island(5)", x.status(0), 1);
        due(2, "undo() behind island(5)", x.undo(), NO);
        due(2, "from(0) behind island(5)", x.from(0), 1);
        due(2, "count(0) from the image", x.count(0), 2);
        due(2, "island(-1)", x.island(-1), BAD);
        due(2, "island(6)", x.island(6), BAD);
        due(2, "count(0) behind a refused island", x.count(0), 2);
        due(2, "island(0)", x.island(0), 2);
    }

    private static void clerk() {
        SlateHills x = new SlateHills();
        due(3, "clerk(3)", x.clerk(3), 0);
        due(3, "clerk(5)", x.clerk(5), 3);
        due(3, "clerk(6)", x.clerk(6), BAD);
        due(3, "clerk(-1)", x.clerk(-1), BAD);
        due(3, "count(5)", x.count(5), 5);
        x.day(7);
        due(3, "clerk(6) behind a day", x.clerk(6), BAD);
        due(3, "count(8) behind a refused clerk", x.count(8), 1);
        due(3, "clerk(5) again", x.clerk(5), 5);
        due(3, "count(8) behind a clerk", x.count(8), 0);
        due(3, "undo() behind a clerk", x.undo(), NO);
        fallsByKind();
    }

    private static void fallsByKind() {
        // rows: clerk, size, day, what it falls by
        int[][] rows = {
            {PLAIN, 0, 1, 8}, {PLAIN, 59, 3, 8}, {OLD, 59, 3, 4}, {OLD, 0, 1, 4},
            {LAMP, 4, 1, 8}, {LAMP, 5, 1, 9}, {LAMP, 59, 1, 19}, {GENTLE, 0, 1, 12}, {GENTLE, 59, 1, 23},
            {DEAF, 39, 1, 4}, {DEAF, 40, 1, 0}, {DEAF, 59, 3, 0}, {DEAF, 0, 2, 4},
            {QUICK, 20, 1, 8}, {QUICK, 20, 2, 8}, {QUICK, 20, 3, 16}, {QUICK, 20, 6, 16}, {QUICK, 59, 7, 8},
        };
        for (int[] r : rows) {
            SlateHills x = onDay(r[2] - 1, r[0], WALL, 10, r[1]);
            due(3, "of(0, 4) by " + Arrays.toString(r), x.of(0, 4), r[3]);
            x.day(0);
            due(9, "of(0, 2) behind day(0) by " + Arrays.toString(r), x.of(0, 2), Math.max(0, r[1] - r[3]));
        }
    }

    private static void vines() {
        SlateHills x = new SlateHills();
        due(4, "vines(0, 9)", x.vines(0, 9), 1);
        due(4, "vines(0, 0)", x.vines(0, 0), 9);
        due(4, "vines(19, 4)", x.vines(19, 4), 1);
        due(4, "has(0)", x.has(0), 0);
        due(4, "has(19)", x.has(19), 4);
        x.day(7);
        due(4, "vines(20, 1)", x.vines(20, 1), BAD);
        due(4, "vines(-1, 1)", x.vines(-1, 1), BAD);
        due(4, "vines(1, 10)", x.vines(1, 10), BAD);
        due(4, "vines(1, -1)", x.vines(1, -1), BAD);
        due(4, "count(8) behind refused vines", x.count(8), 1);
        due(4, "vines(1, 1)", x.vines(1, 1), 1);
        due(4, "count(8) behind vines", x.count(8), 0);
    }

    private static void hill() {
        SlateHills x = new SlateHills();
        due(5, "hill(5, 19, 59)", x.hill(5, 19, 59), 0);
        due(5, "hill(0, 0, 0)", x.hill(0, 0, 0), 1);
        due(5, "hill(6, 1, 0)", x.hill(6, 1, 0), BAD);
        due(5, "hill(-1, 1, 0)", x.hill(-1, 1, 0), BAD);
        due(5, "hill(0, 20, 0)", x.hill(0, 20, 0), BAD);
        due(5, "hill(0, -1, 0)", x.hill(0, -1, 0), BAD);
        due(5, "hill(0, 1, 60)", x.hill(0, 1, 60), BAD);
        due(5, "hill(0, 1, -1)", x.hill(0, 1, -1), BAD);
        due(5, "hill(6, 19, 0): BAD is ahead of NO", x.hill(6, 19, 0), BAD);
        due(5, "hill(0, 19, 0)", x.hill(0, 19, 0), NO);
        for (int i = 2; i < 7; i++) {
            due(5, "hill(1, " + i + ", 7)", x.hill(1, i, 7), i);
        }
        due(5, "an 8th hill on a cell of another: NO is ahead of FULL", x.hill(0, 19, 0), NO);
        x.day(7);
        due(5, "an 8th hill", x.hill(0, 18, 0), FULL);
        due(5, "count(0)", x.count(0), 7);
        due(5, "count(8) behind a refused hill", x.count(8), 1);
        SlateHills y = new SlateHills();
        y.day(7);
        y.hill(0, 0, 0);
        due(5, "count(8) behind a hill", y.count(8), 0);
    }

    private static void typeAndClear() {
        SlateHills x = new SlateHills();
        due(7, "clear() of none", x.clear(), 0);
        due(6, "type(-1)", x.type(-1), BAD);
        due(6, "type(128)", x.type(128), BAD);
        due(6, "type(0)", x.type(0), 1);
        due(6, "type(127)", x.type(127), 2);
        for (int n = 3; n <= 150; n++) {
            due(6, "type(32)", x.type(32), n);
        }
        due(6, "type(128): BAD is ahead of FULL", x.type(128), BAD);
        due(6, "type(32) behind 150", x.type(32), FULL);
        due(6, "count(9)", x.count(9), 150);
        due(7, "clear()", x.clear(), 150);
        due(7, "count(9) behind clear()", x.count(9), 0);
        due(6, "type(32) behind clear()", x.type(32), 1);
    }

    private static void readWell() {
        dueRead("island 0;", 1);
        dueRead(" island 5 ; ", 1);
        dueRead("island0;hill0 0 0;day0;vines0 0;", 4);
        dueRead("island 05;vines 19 09;", 2);
        dueRead("island 0;hill 5 19 59;", 2);
        dueRead("island 0;day 7 7 7 7 7 7 7 7 7;", 2);
        dueRead("island 0;hill 0 0 0;hill 0 1 0;hill 0 2 0;hill 0 3 0;hill 0 4 0;hill 0 5 0;hill 0 6 0;day 6 7;", 9);
        SlateHills x = told("island 3; vines 4 9; hill 0 10 58; day 7 7; vines 10 6; hill 4 3 59;");
        int[] counts = {2, 29, 5, 2, 61, 3, 0, 0, 0, 68};
        for (int what = 0; what < counts.length; what++) {
            due(8, "count(" + what + ") of a read island", x.count(what), counts[what]);
        }
        due(8, "has(4)", x.has(4), 9);
        due(8, "has(8)", x.has(8), 0);
        due(8, "has(10)", x.has(10), 6);
        due(8, "of(0, 2)", x.of(0, 2), 2);
        due(8, "of(1, 0)", x.of(1, 0), 4);
        due(8, "of(1, 1)", x.of(1, 1), 3);
    }

    private static void readFaults() {
        dueRead("", -10);
        dueRead("   ", -13);
        dueRead("vines 0 0;", -10);
        dueRead(";", -10);
        dueRead("7", -10);
        dueRead("islands 0;", -10);
        dueRead("Island 0;", -10);
        dueRead("asland 0;", -10);
        dueRead("island 0;dayz 7;", -19);
        dueRead("island 0;aday 7;", -19);
        dueRead("island", -16);
        dueRead("island ;", -17);
        dueRead("island 6;", -17);
        dueRead("island 5 5;", -19);
        dueRead("island 000;", -17);
        dueRead("island 0", -18);
        dueRead("island 0 ", -19);
        dueRead("island 0;island 0;", -19);
        dueRead("island 0;;", -19);
        dueRead("island 0; 3;", -20);
        dueRead("island 0;wall 0;", -19);
        dueRead("island 0;vines;", -24);
        dueRead("island 0;vines 20 1;", -25);
        dueRead("island 0;vines 19;", -27);
        dueRead("island 0;vines 1 10;", -27);
        dueRead("island 0;vines 1 9", -28);
        dueRead("island 0;vines 1 9 9;", -28 - 1);
        dueRead("island 0;hill 6 0 0;", -24);
        dueRead("island 0;hill 0 20 0;", -26);
        dueRead("island 0;hill 0 1 60;", -28);
        dueRead("island 0;hill 0 1 100;", -28);
        dueRead("island 0;hill 0 1 2;hill 0 1 2;", -10 - 27);
        dueRead("island 0;hill 0 0 0;hill 0 1 0;hill 0 2 0;hill 0 3 0;hill 0 4 0;hill 0 5 0;hill 0 6 0;hill 9;", -10 - 86);
        dueRead("island 0;day;", -22);
        dueRead("island 0;day", -22);
        dueRead("island 0;day 0;", -23);
        dueRead("island 0;day 7 0;hill 0 0 0;", -25);
        dueRead("island 0;day 7 8;", -25);
        dueRead("island 0;day 7 7 7 7 7 7 7 7 7 7;", -10 - 31);
        dueRead("island 0;day 7 day 7;", -25);
        dueRead("island 0;day 7\t7;", -24);
        dueRead("island 0;day -7;", -23);
        dueRead("island 0;day 7hill 0 0 0;", -24);
    }

    private static void readTakesThePlace() {
        SlateHills x = on(OLD, WALL, 3, 5);
        x.seen(0, 0, 0, 2);
        x.mark(0, 0, 8);
        x.chance(1, 0, 5);
        x.hill(6, 0, 0);
        x.day(7);
        x.image(1);
        write(x, "island 2;hill 0 1");
        long before = x.digest();
        due(8, "read() with a fault", x.read(), -10 - 17);
        due(8, "digest() behind a fault", x.digest(), before);
        due(8, "status(0) behind a fault", x.status(0), 1);
        due(8, "count(8) behind a fault", x.count(8), 1);
        write(x, "island 2;hill 0 1 8;day 0;");
        due(8, "read()", x.read(), 3);
        int[] counts = {1, 20, 0, 1, 0, 2, 0, 0, 0, 26};
        for (int what = 0; what < counts.length; what++) {
            due(8, "count(" + what + ") behind read()", x.count(what), counts[what]);
        }
        due(8, "undo() behind read()", x.undo(), NO);
        due(8, "part(0) behind read()", x.part(0), 1);
        due(8, "from(1) behind read()", x.from(1), 1);
        due(8, "count(6) from the image", x.count(6), 1);
        due(8, "read() again", x.read(), 3);
        // what stood in the text before it was cleared is no part of it
        write(x, "island 000;");
        write(x, "island 0");
        due(8, "read() of a shorter text", x.read(), -18);
        write(x, "islands");
        write(x, "island");
        due(8, "read() of a shorter word", x.read(), -16);
        write(x, "island    ");
        write(x, "island");
        due(8, "read() without its blanks", x.read(), -16);
        fullTexts();
    }

    /** Texts of 150 bytes, with each kind of token as the last one. */
    private static void fullTexts() {
        dueRead(" ".repeat(150), -160);
        dueRead(" ".repeat(144) + "island", -160);
        dueRead(" ".repeat(142) + "island 0", -160);
        dueRead(" ".repeat(141) + "island 0;", 1);
        dueRead(" ".repeat(140) + "island 0;;", -159);
        dueRead("island 0;" + " ".repeat(141), 1);
        dueRead("island 0;" + "day 7;".repeat(23) + "   ", 24);
    }

    private static void day() {
        SlateHills x = on(PLAIN, WALL, 10, 58, WALL, 13, 20, WALL, 6, 20, WALL, 7, 43, WALL, 14, 20);
        due(9, "day(7): one goes off by another", x.day(7), 8);
        int[] sizes = {0, 37, 37, 0, 22};
        for (int i = 0; i < sizes.length; i++) {
            due(9, "of(" + i + ", 2)", x.of(i, 2), sizes[i]);
        }
        for (int c = 0; c < 20; c++) {
            due(9, "has(" + c + ")", x.has(c), c >= 5 && c <= 12 ? 0 : 1);
        }
        due(9, "count(2)", x.count(2), 8);
        due(9, "count(3)", x.count(3), 1);
        due(9, "day(5)", x.day(5), BAD);
        due(9, "day(8)", x.day(8), BAD);
        due(9, "day(-1)", x.day(-1), BAD);
        due(9, "count(3) behind a refused day", x.count(3), 1);
        due(9, "day(4)", x.day(4), 0);
        due(9, "of(4, 2) visited", x.of(4, 2), 14);
        due(9, "of(0, 2) not visited", x.of(0, 2), 2);
        edgesOfTheRow();
        visitedGoesOffByAnother();
        growsByKind();
    }

    private static void edgesOfTheRow() {
        SlateHills x = on(PLAIN, WALL, 0, 58, WALL, 19, 58, WALL, 10, 57);
        due(9, "day(7) at both ends", x.day(7), 6);
        due(9, "has(2)", x.has(2), 0);
        due(9, "has(3)", x.has(3), 1);
        due(9, "has(16)", x.has(16), 1);
        due(9, "has(17)", x.has(17), 0);
        due(9, "of(2, 2): 59 does not go off", x.of(2, 2), 59);
    }

    private static void visitedGoesOffByAnother() {
        SlateHills x = on(PLAIN, WALL, 10, 58, WALL, 11, 53, WALL, 12, 52);
        due(9, "day(1)", x.day(1), 7);
        due(9, "of(0, 2)", x.of(0, 2), 0);
        due(9, "of(1, 2)", x.of(1, 2), 0);
        due(9, "of(2, 2)", x.of(2, 2), 0);
    }

    private static void growsByKind() {
        // rows: kind, size, day, what it grows by
        int[][] rows = {
            {WALL, 0, 1, 2}, {WALL, 49, 5, 2},
            {SHADE, 0, 1, 2}, {SHADE, 40, 2, 2}, {SHADE, 40, 3, 4}, {SHADE, 0, 6, 4}, {SHADE, 0, 7, 2}, {SHADE, 0, 10, 4},
            {SPOON, 9, 3, 2}, {SPOON, 10, 3, 3}, {SPOON, 49, 1, 6},
            {GOAT, 40, 1, 4}, {GOAT, 40, 3, 8}, {GOAT, 0, 9, 4},
            {WIFE, 0, 1, 5}, {WIFE, 19, 1, 6}, {WIFE, 49, 2, 9},
            {CHILD, 40, 1, 0}, {CHILD, 40, 2, 2}, {CHILD, 0, 7, 0}, {CHILD, 0, 8, 2},
        };
        for (int[] r : rows) {
            SlateHills x = onDay(r[2] - 1, PLAIN, r[0], 10, r[1]);
            due(12, "of(0, 3) by " + Arrays.toString(r), x.of(0, 3), r[3]);
            x.day(7);
            due(9, "of(0, 2) behind day(7) by " + Arrays.toString(r), x.of(0, 2), r[1] + r[3]);
        }
    }

    private static void lastDay() {
        // more calls than an object has: only the answer at day 9999 is asked, as promise 9 tells it
        SlateHills x = new SlateHills();
        idle(x, 9999);
        due(9, "day(7) on day 9999", x.day(7), NO);
        due(9, "day(8) on day 9999: BAD is ahead of NO", x.day(8), BAD);
        due(9, "count(3)", x.count(3), 9999);
        due(9, "lost(30) on day 9999", x.lost(30), 0);
    }

    private static void putBack() {
        SlateHills x = new SlateHills();
        due(10, "putBack(3, 1)", x.putBack(3, 1), 2);
        due(10, "putBack(3, 9)", x.putBack(3, 9), 9);
        due(10, "putBack(3, 1) at 9", x.putBack(3, 1), NO);
        due(10, "putBack(3, 0): BAD is ahead of NO", x.putBack(3, 0), BAD);
        due(10, "putBack(3, 10)", x.putBack(3, 10), BAD);
        due(10, "putBack(20, 1)", x.putBack(20, 1), BAD);
        due(10, "putBack(-1, 1)", x.putBack(-1, 1), BAD);
        due(10, "count(8)", x.count(8), 2);
        due(10, "count(1)", x.count(1), 28);
        due(10, "count(2)", x.count(2), 0);
        due(10, "count(3)", x.count(3), 0);
    }

    private static void undo() {
        SlateHills x = on(PLAIN, WALL, 10, 55, SHADE, 12, 1);
        due(11, "undo() of none", x.undo(), NO);
        x.day(7);
        x.putBack(10, 5);
        x.day(7);
        due(11, "day(7)", x.day(7), 10);
        due(11, "undo()", x.undo(), 2);
        due(11, "of(0, 2)", x.of(0, 2), 59);
        due(11, "of(1, 2)", x.of(1, 2), 5);
        due(11, "has(10)", x.has(10), 6);
        due(11, "has(8)", x.has(8), 1);
        due(11, "count(2)", x.count(2), 0);
        due(11, "undo()", x.undo(), 1);
        due(11, "undo() of a putting back", x.undo(), 1);
        due(11, "has(10)", x.has(10), 1);
        due(11, "undo()", x.undo(), 0);
        due(11, "of(0, 2)", x.of(0, 2), 55);
        due(11, "undo() of no more", x.undo(), NO);
        idle(x, 3);
        due(11, "count(2) behind 3 days", x.count(2), 5);
        x.day(7);
        x.day(7);
        x.undo();
        due(11, "count(2) is kept by the step", x.count(2), 5);
        x.undo();
        x.undo();
        due(11, "count(2) is undone", x.count(2), 0);
        x.undo();
        x.undo();
        due(11, "count(3) is undone", x.count(3), 0);
        idle(x, 9);
        due(11, "count(8) behind 9 days", x.count(8), 8);
        for (int d = 8; d >= 1; d--) {
            due(11, "undo()", x.undo(), d);
        }
        due(11, "undo() a 9th time", x.undo(), NO);
        due(11, "count(3)", x.count(3), 1);
        due(11, "of(0, 2)", x.of(0, 2), 57);
    }

    private static void ofAndHas() {
        SlateHills x = onDay(2, LAMP, GOAT, 7, 41);
        int[] parts = {GOAT, 7, 41, 8, 16};
        for (int what = 0; what < parts.length; what++) {
            due(12, "of(0, " + what + ")", x.of(0, what), parts[what]);
        }
        due(12, "of(0, 5)", x.of(0, 5), BAD);
        due(12, "of(0, -1)", x.of(0, -1), BAD);
        due(12, "of(1, 0)", x.of(1, 0), BAD);
        due(12, "of(-1, 0)", x.of(-1, 0), BAD);
        due(12, "of(0, 4) beyond the size", on(PLAIN, WALL, 0, 3).of(0, 4), 8);
        x.vines(19, 6);
        due(13, "has(19)", x.has(19), 6);
        due(13, "has(0)", x.has(0), 1);
        due(13, "has(20)", x.has(20), BAD);
        due(13, "has(-1)", x.has(-1), BAD);
    }

    private static void highGoesLost() {
        SlateHills x = on(PLAIN, WALL, 10, 50, CHILD, 0, 0);
        int[] highs = {50, 52, 54, 56, 58, 0, 2};
        for (int m = 0; m < highs.length; m++) {
            due(14, "high(0, " + m + ")", x.high(0, m), highs[m]);
            due(16, "lost(" + m + ")", x.lost(m), m < 5 ? 0 : 5);
        }
        due(14, "high(0, 30)", x.high(0, 30), 50);
        due(14, "high(1, 30)", x.high(1, 30), 30);
        due(14, "high(0, 31)", x.high(0, 31), BAD);
        due(14, "high(0, -1)", x.high(0, -1), BAD);
        due(14, "high(2, 0)", x.high(2, 0), BAD);
        due(14, "high(-1, 0)", x.high(-1, 0), BAD);
        due(15, "goes(0)", x.goes(0), 5);
        due(15, "goes(1): the last day looked at", x.goes(1), 60);
        due(15, "goes(2)", x.goes(2), BAD);
        due(15, "goes(-1)", x.goes(-1), BAD);
        due(16, "lost(30)", x.lost(30), 5);
        due(16, "lost(31)", x.lost(31), BAD);
        due(16, "lost(-1)", x.lost(-1), BAD);
        due(16, "count(3) stays", x.count(3), 0);
        due(16, "count(1) stays", x.count(1), 20);
        due(15, "goes by another", on(PLAIN, WALL, 10, 56, WALL, 13, 41).goes(1), 2);
        due(15, "goes by none, being 4 away", on(PLAIN, WALL, 10, 56, WALL, 14, 41).goes(1), 10);
    }

    private static void chain() {
        SlateHills x = on(PLAIN, WALL, 0, 59, WALL, 3, 45, WALL, 6, 44, WALL, 8, 30, WALL, 19, 59);
        due(17, "chain(0)", x.chain(0), 3);
        due(17, "chain(1)", x.chain(1), 3);
        due(17, "chain(2): two make a third go off", x.chain(2), 7);
        due(17, "chain(3)", x.chain(3), 8);
        due(17, "chain(4)", x.chain(4), 16);
        due(17, "chain(5)", x.chain(5), BAD);
        due(17, "chain(-1)", x.chain(-1), BAD);
        due(17, "count(4) stays", x.count(4), 59 + 45 + 44 + 30 + 59);
        due(17, "by one alone", on(PLAIN, WALL, 4, 45, WALL, 7, 30, WALL, 8, 0).chain(2), 4);
        due(17, "by two in turn", on(PLAIN, WALL, 5, 45, WALL, 7, 30, WALL, 8, 0).chain(2), 7);
    }

    private static void plan() {
        SlateHills x = on(PLAIN, WALL, 4, 58, WALL, 10, 58, WALL, 16, 50);
        x.vines(10, 3);
        due(18, "plan(1, -2): the dearer one is visited", x.plan(1, -2), 5);
        due(18, "plan(1, 0)", x.plan(1, 0), 1);
        due(18, "plan(1, 1)", x.plan(1, 1), -5);
        due(18, "plan(4, 4)", x.plan(4, 4), -5);
        due(18, "plan(0, -2)", x.plan(0, -2), -10);
        due(18, "plan(5, -2)", x.plan(5, -2), -10);
        due(18, "plan(1, -1)", x.plan(1, -1), -10);
        due(18, "plan(1, -3)", x.plan(1, -3), -10);
        due(18, "plan(0, 5)", x.plan(0, 5), -10);
        due(18, "status(0): -10 counts, -5 doesn't", x.status(0), 5);
        due(18, "status(1)", x.status(1), 0);
        due(18, "count(3) stays", x.count(3), 0);
        SlateHills bare = on(PLAIN, WALL, 10, 58);
        for (int c = 8; c <= 12; c++) {
            bare.vines(c, 0);
        }
        due(18, "plan(1, 0): going off leaves least size", bare.plan(1, 0), NONE);
        due(18, "plan(1, -2)", bare.plan(1, -2), 0);
        SlateHills deaf = on(DEAF, CHILD, 3, 50, CHILD, 9, 50);
        due(18, "plan(1, 0): the first of like rows", deaf.plan(1, 0), 0);
        due(18, "plan(2, 0)", deaf.plan(2, 0), 0);
        due(18, "plan(2, 1)", deaf.plan(2, 1), 0);
        SlateHills two = on(PLAIN, WALL, 3, 56, WALL, 15, 57);
        due(18, "plan(2, 0)", two.plan(2, 0), 0);
        due(18, "plan(2, 1)", two.plan(2, 1), 1);
        due(18, "plan(4, -2)", two.plan(4, -2), 0);
        due(18, "plan(4, 3) without hills", new SlateHills().plan(4, 3), NONE);
        due(18, "plan(4, -2) without hills", new SlateHills().plan(4, -2), 0);
    }

    private static void askFirst() {
        SlateHills x = on(PLAIN, WALL, 4, 50, WALL, 10, 57, WALL, 16, 57);
        x.vines(16, 4);
        due(19, "askFirst(2, 0)", x.askFirst(2, 0), 2);
        due(19, "askFirst(2, 1)", x.askFirst(2, 1), 5);
        due(19, "askFirst(1, 0): of like ones the least", x.askFirst(1, 0), 0);
        due(19, "askFirst(1, 1)", x.askFirst(1, 1), 0);
        due(19, "askFirst(30, 1)", x.askFirst(30, 1), 18);
        due(19, "askFirst(0, 0)", x.askFirst(0, 0), BAD);
        due(19, "askFirst(31, 0)", x.askFirst(31, 0), BAD);
        due(19, "askFirst(1, 2)", x.askFirst(1, 2), BAD);
        due(19, "askFirst(1, -1)", x.askFirst(1, -1), BAD);
        due(19, "askFirst(1, 0) without hills", new SlateHills().askFirst(1, 0), NONE);
        due(19, "askFirst(1, 1) without hills", new SlateHills().askFirst(1, 1), NONE);
    }

    /** What is lost on two hills, the one of most size being visited each day. */
    private static int harmBesideTallest(SlateHills x, int days) {
        for (int d = 0; d < days; d++) {
            x.day(x.of(1, 2) > x.of(0, 2) ? 1 : 0);
        }
        return x.count(2);
    }

    private static void calm() {
        // one of them goes off on day 1, whoever comes to the other
        SlateHills x = on(GENTLE, WALL, 4, 58, WALL, 15, 58);
        due(20, "calm(1, 0)", x.calm(1, 0), 0);
        due(20, "calm(1, 1)", x.calm(1, 1), 5);
        // PLAIN leaves 51 beside 50 on day 1, so the first is visited again and the second goes off; LAMP leaves 40
        SlateHills y = on(PLAIN, WIFE, 4, 59, WIFE, 15, 41);
        int[] harms = {5, 5, 0, 0, 5, 5};
        for (int kind = 0; kind < harms.length; kind++) {
            SlateHills z = on(kind, WIFE, 4, 59, WIFE, 15, 41);
            due(9, "harm by clerk " + kind, harmBesideTallest(z, 6), harms[kind]);
        }
        due(20, "calm(6, 0)", y.calm(6, 0), LAMP);
        due(20, "calm(6, 1)", y.calm(6, 1), 0);
        // of like ones the first is visited: the second, with the vineyards, goes off
        SlateHills like = on(PLAIN, WALL, 4, 58, WALL, 15, 58);
        like.vines(15, 9);
        due(20, "calm(1, 1) of like ones", like.calm(1, 1), 13);
        due(20, "count(5) stays", y.count(5), PLAIN);
        due(20, "calm(0, 0)", y.calm(0, 0), BAD);
        due(20, "calm(31, 0)", y.calm(31, 0), BAD);
        due(20, "calm(1, 2)", y.calm(1, 2), BAD);
        due(20, "calm(1, -1)", y.calm(1, -1), BAD);
        due(20, "calm(30, 0) without hills", new SlateHills().calm(30, 0), 0);
        due(20, "calm(30, 1) without hills", new SlateHills().calm(30, 1), 0);
    }

    private static void seenWhichNext() {
        SlateHills x = on(PLAIN, WALL, 4, 5, WALL, 8, 5);
        due(22, "which(0) of none seen", x.which(0), 63);
        due(23, "next(0) of none seen", x.next(0), 1003);
        due(21, "seen(0, 0, 0, 2)", x.seen(0, 0, 0, 2), 1);
        due(22, "which(0)", x.which(0), 7);
        due(22, "which(1): of another hill", x.which(1), 63);
        due(21, "seen(0, 2, 9, 11)", x.seen(0, 2, 9, 11), 2);
        due(22, "which(0)", x.which(0), 5);
        due(23, "next(0): WALL or SPOON", x.next(0), 1000);
        due(21, "seen(0, 99, 59, 99)", x.seen(0, 99, 59, 99), 3);
        due(22, "which(0) of no kind", x.which(0), 0);
        due(23, "next(0) of no kind", x.next(0), NONE);
        due(21, "seen(1, 1, 30, 32)", x.seen(1, 1, 30, 32), 4);
        due(22, "which(1)", x.which(1), 35);
        due(23, "next(1): WALL, SHADE or CHILD", x.next(1), 3);
        due(21, "seen(2, 0, 0, 0)", x.seen(2, 0, 0, 0), BAD);
        due(21, "seen(-1, 0, 0, 0)", x.seen(-1, 0, 0, 0), BAD);
        due(21, "seen(0, 100, 0, 0)", x.seen(0, 100, 0, 0), BAD);
        due(21, "seen(0, -1, 0, 0)", x.seen(0, -1, 0, 0), BAD);
        due(21, "seen(0, 0, 60, 0)", x.seen(0, 0, 60, 0), BAD);
        due(21, "seen(0, 0, -1, 0)", x.seen(0, 0, -1, 0), BAD);
        due(21, "seen(0, 0, 0, 100)", x.seen(0, 0, 0, 100), BAD);
        due(21, "seen(0, 0, 0, -1)", x.seen(0, 0, 0, -1), BAD);
        due(21, "seen(1, 0, 0, 0)", x.seen(1, 0, 0, 0), 5);
        due(21, "seen(2, 0, 0, 0): BAD is ahead of FULL", x.seen(2, 0, 0, 0), BAD);
        due(21, "seen(1, 0, 0, 0) a 6th time", x.seen(1, 0, 0, 0), FULL);
        due(22, "which(2)", x.which(2), BAD);
        due(22, "which(-1)", x.which(-1), BAD);
        due(23, "next(2)", x.next(2), BAD);
        due(23, "next(-1)", x.next(-1), BAD);
        dueDigest(21, "with seen ones", x,
                new int[] {0, 0, 0, 2, 0, 2, 9, 11, 0, 99, 59, 99, 1, 1, 30, 32, 1, 0, 0, 0}, EMPTY);
    }

    private static void markKindsLook() {
        SlateHills x = new SlateHills();
        due(26, "kinds() of no marks", x.kinds(), 63);
        due(27, "look() of no marks", x.look(), 4500);
        due(24, "mark(1, 0, 8)", x.mark(1, 0, 8), 1);
        due(26, "kinds()", x.kinds(), 37);
        due(27, "look(): PLAIN, LAMP or QUICK", x.look(), 500);
        due(24, "mark(3, 20, 12)", x.mark(3, 20, 12), 2);
        due(26, "kinds()", x.kinds(), 4);
        due(27, "look() of one kind", x.look(), 0);
        due(24, "mark(0, 0, 40)", x.mark(0, 0, 40), 3);
        due(26, "kinds() of none", x.kinds(), 0);
        due(27, "look() of none", x.look(), NONE);
        due(24, "mark(100, 0, 0)", x.mark(100, 0, 0), BAD);
        due(24, "mark(-1, 0, 0)", x.mark(-1, 0, 0), BAD);
        due(24, "mark(0, 60, 0)", x.mark(0, 60, 0), BAD);
        due(24, "mark(0, -1, 0)", x.mark(0, -1, 0), BAD);
        due(24, "mark(0, 0, 41)", x.mark(0, 0, 41), BAD);
        due(24, "mark(0, 0, -1)", x.mark(0, 0, -1), BAD);
        due(24, "mark(99, 59, 0)", x.mark(99, 59, 0), 4);
        due(24, "a 5th mark", x.mark(0, 0, 0), 5);
        due(24, "a 6th mark", x.mark(0, 0, 0), 6);
        due(24, "mark(100, 0, 0): BAD is ahead of FULL", x.mark(100, 0, 0), BAD);
        due(24, "a 7th mark", x.mark(0, 0, 0), FULL);
        dueDigest(24, "with marks", x, EMPTY, new int[] {1, 0, 8, 3, 20, 12, 0, 0, 40, 99, 59, 0, 0, 0, 0, 0, 0, 0});
        SlateHills deaf = new SlateHills();
        deaf.mark(1, 39, 4);
        due(26, "kinds(): OLD or DEAF", deaf.kinds(), 18);
        due(27, "look(): OLD or DEAF", deaf.look(), 4000);
    }

    private static void forget() {
        SlateHills x = on(PLAIN, WALL, 0, 0);
        x.seen(0, 0, 0, 2);
        x.mark(0, 0, 8);
        x.mark(0, 0, 9);
        due(25, "forget(2)", x.forget(2), BAD);
        due(25, "forget(-1)", x.forget(-1), BAD);
        due(25, "forget(0)", x.forget(0), 1);
        due(25, "count(6)", x.count(6), 0);
        due(25, "count(7)", x.count(7), 2);
        due(25, "which(0)", x.which(0), 63);
        due(25, "forget(1)", x.forget(1), 2);
        due(25, "kinds()", x.kinds(), 63);
        due(25, "forget(1) again", x.forget(1), 0);
        due(25, "forget(0) again", x.forget(0), 0);
    }

    private static void waiting() {
        SlateHills x = on(PLAIN, WALL, 10, 50);
        due(28, "waiting(-1)", x.waiting(-1), 2);
        due(28, "waiting(0)", x.waiting(0), 0);
        due(28, "waiting(1)", x.waiting(1), 7);
        due(28, "waiting(2)", x.waiting(2), -5);
        due(28, "waiting(-2)", x.waiting(-2), -10);
        due(28, "status(0): -10 counts, -5 doesn't", x.status(0), 1);
        due(28, "of(0, 2) stays", x.of(0, 2), 50);
        // CHILD does not grow on day 1: 10 more would go off, were it not 59 at most
        SlateHills capped = on(PLAIN, CHILD, 10, 55);
        due(28, "waiting(-1) with 59 at most", capped.waiting(-1), 4);
        due(28, "waiting(0)", capped.waiting(0), 0);
        due(28, "waiting(1)", capped.waiting(1), 7);
        due(28, "waiting(2)", capped.waiting(2), 70);
        due(28, "waiting(3)", capped.waiting(3), 77);
        // each of two may be pushed over, whichever is visited the wall takes the other: none rests
        SlateHills pair = on(PLAIN, WALL, 4, 50, WALL, 15, 50);
        due(28, "waiting(-1) of two alike", pair.waiting(-1), 0);
        due(28, "waiting(0) of two alike", pair.waiting(0), -5);
        due(28, "waiting(0) without hills", new SlateHills().waiting(0), 77);
        // DEAF can't help: 10 more on 48 go off, on 47 they don't
        due(28, "waiting(-1) of 48", on(DEAF, WALL, 10, 48).waiting(-1), 2);
        due(28, "waiting(-1) of 47", on(DEAF, WALL, 10, 47).waiting(-1), 4);
        // once the wall names the second, both go off, whoever is visited
        SlateHills both = on(PLAIN, WALL, 9, 58, WALL, 10, 50);
        due(28, "waiting(-1) of two beside one another", both.waiting(-1), 3);
        due(28, "waiting(0)", both.waiting(0), 1);
        due(28, "waiting(1)", both.waiting(1), 11);
        due(28, "waiting(2)", both.waiting(2), 71);
    }

    private static void chance() {
        SlateHills x = on(PLAIN, WALL, 10, 58);
        // rows: n, x, c, above, below
        int[][] rows = {
            {1, 1, 3, 7, 10}, {1, 5, 3, 7, 10}, {1, 6, 3, 0, 1}, {1, 1, 10, 0, 1}, {1, 1, 0, 1, 1},
            {1, 0, 3, 1, 1}, {0, 0, 5, 1, 1}, {0, 1, 5, 0, 1}, {1, 1, 5, 1, 2}, {1, 1, 4, 3, 5}, {4, 50, 5, 0, 1},
        };
        for (int[] r : rows) {
            due(29, "chance by " + Arrays.toString(r), x.chance(r[0], r[1], r[2]), 1);
            due(31, "part(0) by " + Arrays.toString(r), x.part(0), r[3]);
            due(31, "part(1) by " + Arrays.toString(r), x.part(1), r[4]);
        }
        x.chance(1, 1, 3);
        int[][] bad = {{-1, 0, 0}, {5, 0, 0}, {0, -1, 0}, {0, 51, 0}, {0, 0, -1}, {0, 0, 11}};
        for (int[] b : bad) {
            due(29, "chance by " + Arrays.toString(b), x.chance(b[0], b[1], b[2]), BAD);
        }
        due(29, "part(0) behind refused ones", x.part(0), 7);
        due(29, "part(1) behind refused ones", x.part(1), 10);
        due(31, "part(2)", x.part(2), BAD);
        due(31, "part(-1)", x.part(-1), BAD);
        due(29, "of(0, 2) stays", x.of(0, 2), 58);
        // both go off on day 2 without a visit, one of them with one visit, none with two
        SlateHills two = on(OLD, WALL, 4, 56, WALL, 15, 56);
        two.chance(2, 10, 2);
        due(29, "part(0): no visit in two days", two.part(0), 16);
        due(29, "part(1)", two.part(1), 25);
        two.chance(2, 5, 2);
        due(29, "part(0): not two visits", two.part(0), 24);
        due(29, "part(1)", two.part(1), 25);
        SlateHills like = on(PLAIN, WALL, 4, 58, WALL, 15, 58);
        like.vines(15, 9);
        like.chance(1, 13, 10);
        due(29, "part(0): of like ones the first is visited", like.part(0), 1);
        like.chance(1, 14, 10);
        due(29, "part(0)", like.part(0), 0);
    }

    /** Years beside the same days, told one by one. */
    private static void yearsByDays() {
        for (int seed = 0; seed < 20; seed++) {
            SlateHills y = on(PLAIN, WALL, 2, 30, GOAT, 6, 20, WIFE, 10, 40, CHILD, 14, 50);
            int want = y.years(seed, 20);
            BigInteger big = BigInteger.valueOf(seed);
            for (int d = 0; d < 20; d++) {
                big = big.multiply(BigInteger.valueOf(1103515245)).add(BigInteger.valueOf(12345))
                        .mod(BigInteger.valueOf(2147483648L));
                int name = big.intValue() / 65536 % 8;
                y.day(name < 4 ? name : 7);
            }
            due(30, "years(" + seed + ", 20)", want, y.count(2));
        }
    }

    private static void years() {
        SlateHills x = on(PLAIN, WALL, 10, 58);
        // by seed 0 X is 12345 first, which names hill 0; by seed 2, X is 59562187, which names hill 4: none
        due(30, "years(0, 1)", x.years(0, 1), 0);
        due(30, "years(2, 1)", x.years(2, 1), 5);
        due(30, "years(2, 0)", x.years(2, 0), 0);
        yearsByDays();
        due(30, "years(999999, 60)", x.years(999999, 60), 5);
        due(30, "years(-1, 0)", x.years(-1, 0), BAD);
        due(30, "years(1000000, 0)", x.years(1000000, 0), BAD);
        due(30, "years(0, -1)", x.years(0, -1), BAD);
        due(30, "years(0, 61)", x.years(0, 61), BAD);
        due(30, "count(3) stays", x.count(3), 0);
    }

    private static void imageOfFullRows() {
        SlateHills x = on(PLAIN, WALL, 10, 50);
        int[] seen = new int[20];
        int[] marks = new int[18];
        for (int n = 0; n < 5; n++) {
            x.seen(0, n + 1, n + 2, n + 3);
            System.arraycopy(new int[] {0, n + 1, n + 2, n + 3}, 0, seen, 4 * n, 4);
        }
        for (int n = 0; n < 6; n++) {
            x.mark(n + 1, n + 2, n + 3);
            System.arraycopy(new int[] {n + 1, n + 2, n + 3}, 0, marks, 3 * n, 3);
        }
        idle(x, 11);
        x.image(0);
        x.island(4);
        x.hill(3, 3, 3);
        x.seen(0, 9, 9, 9);
        x.mark(9, 9, 9);
        idle(x, 12);
        due(32, "image(1)", x.image(1), 1);
        due(33, "from(0)", x.from(0), 1);
        dueDigest(33, "from an image of full rows", x, seen, marks);
        due(33, "count(6)", x.count(6), 5);
        due(33, "count(7)", x.count(7), 6);
        for (int d = 10; d >= 3; d--) {
            due(33, "undo() from an image", x.undo(), d);
            due(33, "of(0, 2)", x.of(0, 2), d < 5 ? 50 + 2 * d : 2 * (d - 5));
            due(33, "count(2)", x.count(2), d < 5 ? 0 : 5);
        }
        due(33, "undo() a 9th time", x.undo(), NO);
        due(33, "from(1)", x.from(1), 1);
        dueDigest(33, "from the other image", x, new int[] {0, 9, 9, 9}, new int[] {9, 9, 9});
        due(33, "undo() from the other", x.undo(), 11);
    }

    private static void images() {
        SlateHills x = on(QUICK, GOAT, 2, 30);
        x.seen(0, 1, 2, 3);
        x.mark(4, 5, 6);
        x.day(7);
        x.putBack(5, 3);
        due(32, "image(1)", x.image(1), 1);
        due(32, "image(2)", x.image(2), BAD);
        due(32, "image(-1)", x.image(-1), BAD);
        due(33, "from(2)", x.from(2), BAD);
        due(33, "from(-1)", x.from(-1), BAD);
        due(33, "from(0)", x.from(0), NO);
        long before = x.digest();
        x.undo();
        x.forget(0);
        x.forget(1);
        x.mark(0, 0, 0);
        x.clerk(0);
        x.hill(0, 0, 0);
        x.image(0);
        due(33, "from(1)", x.from(1), 1);
        due(33, "digest() from the image", x.digest(), before);
        dueDigest(33, "from the image", x, new int[] {0, 1, 2, 3}, new int[] {4, 5, 6});
        due(33, "count(8) from the image", x.count(8), 2);
        due(33, "undo() from the image", x.undo(), 1);
        due(33, "has(5)", x.has(5), 1);
        due(33, "undo() from the image", x.undo(), 0);
        due(33, "of(0, 2)", x.of(0, 2), 30);
        x.type(105);
        x.chance(0, 0, 0);
        due(33, "from(1) again", x.from(1), 1);
        due(33, "count(8): the image is as it was", x.count(8), 2);
        due(33, "count(9): the text is not of it", x.count(9), 1);
        due(33, "part(0): the fraction is not of it", x.part(0), 1);
        due(33, "status(0): nor is what was refused", x.status(0), 4);
        due(33, "from(0)", x.from(0), 1);
        due(33, "count(0) from the other", x.count(0), 2);
        due(33, "count(7) from the other", x.count(7), 1);
        x.island(0);
        x.image(0);
        x.from(1);
        due(33, "count(0) of an image kept", x.count(0), 1);
        x.from(0);
        due(32, "count(0) of an image kept anew", x.count(0), 0);
        imageOfFullRows();
    }

    private static void status() {
        SlateHills x = new SlateHills();
        x.island(6);
        x.plan(0, 0);
        x.waiting(-2);
        x.part(2);
        x.undo();
        x.from(0);
        due(34, "status(0)", x.status(0), 4);
        due(34, "status(1)", x.status(1), 2);
        due(34, "status(2)", x.status(2), 0);
        due(34, "status(3)", x.status(3), -1);
        due(34, "status(-1)", x.status(-1), -1);
        due(34, "status(0)", x.status(0), 6);
        // answers below 0 that refuse nothing
        x.plan(1, 0);
        x.plan(1, 1);
        x.askFirst(1, 0);
        x.read();
        x.waiting(9);
        x.mark(0, 0, 40);
        x.look();
        due(34, "status(0)", x.status(0), 6);
        due(34, "status(1)", x.status(1), 2);
        due(34, "status(2)", x.status(2), 0);
        for (int n = 0; n < 8; n++) {
            x.mark(0, 0, 0);
        }
        due(34, "status(2)", x.status(2), 3);
        x.count(10);
        due(34, "status(0) behind count(10)", x.status(0), 7);
    }

    private static void countAndDigest() {
        SlateHills x = on(GENTLE, WALL, 10, 58, CHILD, 14, 9);
        x.vines(0, 7);
        x.seen(1, 0, 1, 2);
        x.mark(3, 4, 5);
        x.mark(6, 7, 8);
        x.day(7);
        x.day(0);
        x.putBack(3, 2);
        x.type(65);
        int[] counts = {2, 23, 5, 2, 11, GENTLE, 1, 2, 3, 1};
        for (int what = 0; what < counts.length; what++) {
            due(35, "count(" + what + ")", x.count(what), counts[what]);
        }
        due(35, "count(10)", x.count(10), BAD);
        due(35, "count(-1)", x.count(-1), BAD);
        dueDigest(36, "with all", x, new int[] {1, 0, 1, 2}, new int[] {3, 4, 5, 6, 7, 8});
        x.chance(2, 0, 7);
        due(36, "part(0)", x.part(0), 1);
        dueDigest(36, "with a fraction", x, new int[] {1, 0, 1, 2}, new int[] {3, 4, 5, 6, 7, 8});
        x.status(9);
        dueDigest(36, "of a new object", new SlateHills(), EMPTY, EMPTY);
        due(36, "digest() twice", x.digest() - x.digest(), 0);
    }

    public static void main(String[] args) {
        newObject();
        island();
        clerk();
        vines();
        hill();
        typeAndClear();
        readWell();
        readFaults();
        readTakesThePlace();
        day();
        lastDay();
        putBack();
        undo();
        ofAndHas();
        highGoesLost();
        chain();
        plan();
        askFirst();
        calm();
        seenWhichNext();
        markKindsLook();
        forget();
        waiting();
        chance();
        years();
        images();
        status();
        countAndDigest();
        System.out.println(wrong == 0 ? "all promises are kept" : wrong + " answers are not as promised");
        if (wrong != 0) {
            System.exit(1);
        }
    }
}
