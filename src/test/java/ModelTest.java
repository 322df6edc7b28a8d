import java.lang.reflect.InvocationTargetException;
import java.lang.reflect.Method;
import java.math.BigInteger;
import java.util.ArrayDeque;
import java.util.ArrayList;
import java.util.Arrays;
import java.util.Comparator;
import java.util.Deque;
import java.util.List;
import java.util.Map;
import java.util.Random;
import java.util.TreeMap;
import java.util.regex.Matcher;
import java.util.regex.Pattern;
import java.util.stream.Collectors;
import java.util.stream.IntStream;

/**
 * Long runs of calls by fixed seeds against a second, slow program of the document,
 * which shares no line with the class: every day makes a new island, every question tries all rows.
 */
public final class ModelTest {
    private static final int RUNS = 300;
    private static final int CALLS = 500;

    // ---- kinds, each under the one told

    private static class Wall {
        int grows(int s, int t) {
            return 2;
        }
    }

    private static class Shade extends Wall {
        int grows(int s, int t) {
            return super.grows(s, t) + (t % 7 < 3 ? 0 : 2);
        }
    }

    private static class Spoon extends Wall {
        int grows(int s, int t) {
            return super.grows(s, t) + s / 10;
        }
    }

    private static class Goat extends Shade {
        int grows(int s, int t) {
            return 2 * super.grows(s, t);
        }
    }

    private static class Wife extends Spoon {
        int grows(int s, int t) {
            return super.grows(s, t) + 3;
        }
    }

    private static class Child extends Wall {
        int grows(int s, int t) {
            return (t & 1) == 1 ? 0 : super.grows(s, t);
        }
    }

    private static final List<Wall> MATTERS =
            List.of(new Wall(), new Shade(), new Spoon(), new Goat(), new Wife(), new Child());

    private static class Plain {
        int falls(int s, int t) {
            return 8;
        }
    }

    private static class Old extends Plain {
        int falls(int s, int t) {
            return super.falls(s, t) / 2;
        }
    }

    private static class Lamp extends Plain {
        int falls(int s, int t) {
            return super.falls(s, t) + s / 5;
        }
    }

    private static class Gentle extends Lamp {
        int falls(int s, int t) {
            return super.falls(s, t) + 4;
        }
    }

    private static class Deaf extends Old {
        int falls(int s, int t) {
            return s < 40 ? super.falls(s, t) : 0;
        }
    }

    private static class Quick extends Plain {
        int falls(int s, int t) {
            return t % 3 == 0 ? 2 * super.falls(s, t) : super.falls(s, t);
        }
    }

    private static final List<Plain> CLERKS =
            List.of(new Plain(), new Old(), new Lamp(), new Gentle(), new Deaf(), new Quick());

    // ---- an island that never changes

    private record Hill(int kind, int cell, int size) {
        Hill sized(int s) {
            return new Hill(kind, cell, s);
        }
    }

    private record Isle(int clerk, List<Hill> hills, List<Integer> vines, int harm, int day, int off) {
        static Isle first(int clerk) {
            return new Isle(clerk, List.of(), IntStream.range(0, 20).mapToObj(c -> 1).toList(), 0, 0, 0);
        }

        Isle with(Hill h) {
            List<Hill> more = new ArrayList<>(hills);
            more.add(h);
            return new Isle(clerk, more, vines, harm, day, 0);
        }

        Isle sized(int i, int s) {
            List<Hill> other = new ArrayList<>(hills);
            other.set(i, other.get(i).sized(s));
            return new Isle(clerk, other, vines, harm, day, off);
        }

        Isle planted(int c, int n) {
            List<Integer> other = new ArrayList<>(vines);
            other.set(c, n);
            return new Isle(clerk, hills, other, harm, day, 0);
        }

        Isle under(int kind) {
            return new Isle(kind, hills, vines, harm, day, 0);
        }

        Isle after(int visited) {
            int t = day + 1;
            List<Hill> grown = new ArrayList<>();
            for (int i = 0; i < hills.size(); i++) {
                Hill h = hills.get(i);
                int s = h.size();
                grown.add(h.sized(i == visited ? Math.max(s - CLERKS.get(clerk).falls(s, t), 0)
                        : s + MATTERS.get(h.kind()).grows(s, t)));
            }
            return new Isle(clerk, grown, vines, harm, t, 0).rested();
        }

        Isle rested() {
            for (int i = 0; i < hills.size(); i++) {
                if (hills.get(i).size() >= 60) {
                    return without(i).rested();
                }
            }
            return this;
        }

        private Isle without(int gone) {
            int middle = hills.get(gone).cell();
            int offNow = off | 1 << gone;
            List<Integer> left = new ArrayList<>();
            int harmed = 0;
            for (int c = 0; c < 20; c++) {
                boolean near = Math.abs(c - middle) < 3;
                left.add(near ? 0 : vines.get(c));
                harmed += near ? vines.get(c) : 0;
            }
            List<Hill> shaken = new ArrayList<>();
            for (int i = 0; i < hills.size(); i++) {
                Hill h = hills.get(i);
                boolean touched = (offNow & 1 << i) == 0 && Math.abs(h.cell() - middle) < 4;
                shaken.add(h.sized(i == gone ? 0 : h.size() + (touched ? 15 : 0)));
            }
            return new Isle(clerk, shaken, left, harm + harmed, day, offNow);
        }

        Isle idle(int days) {
            Isle isle = this;
            for (int d = 0; d < days; d++) {
                isle = isle.after(7);
            }
            return isle;
        }

        int sizes() {
            return hills.stream().mapToInt(Hill::size).sum();
        }

        int tallest() {
            return IntStream.range(0, hills.size()).boxed()
                    .max(Comparator.comparingInt((Integer i) -> hills.get(i).size()).thenComparing(i -> -i)).orElse(7);
        }

        /** Whom a day may have: the hills, and 7. */
        List<Integer> names() {
            List<Integer> all = new ArrayList<>();
            for (int i = 0; i < hills.size(); i++) {
                all.add(i);
            }
            all.add(7);
            return all;
        }
    }

    private record Kept(Isle isle, List<int[]> seen, List<int[]> marks, List<Isle> undo) {
    }

    // ---- the second program

    private static final class Model {
        private Isle isle = Isle.first(0);
        private List<int[]> seen = new ArrayList<>();
        private List<int[]> marks = new ArrayList<>();
        private Deque<Isle> undo = new ArrayDeque<>();
        private final Kept[] images = new Kept[2];
        private final int[] refused = new int[3];
        private String text = "";
        private BigInteger above = BigInteger.ZERO;
        private BigInteger below = BigInteger.ONE;

        private int no(int reason) {
            refused[-2 - reason]++;
            return reason;
        }

        private boolean out(int v, int least, int most) {
            return v < least || v > most;
        }

        private boolean noHill(int i) {
            return out(i, 0, isle.hills().size() - 1);
        }

        private void startWith(Isle with) {
            isle = with;
            seen.clear();
            marks.clear();
            undo.clear();
        }

        private void undoable() {
            undo.push(isle);
            if (undo.size() > 8) {
                undo.removeLast();
            }
        }

        public long island(int kind) {
            if (out(kind, 0, 5)) {
                return no(-2);
            }
            int had = isle.hills().size();
            startWith(Isle.first(kind));
            return had;
        }

        public long clerk(int kind) {
            if (out(kind, 0, 5)) {
                return no(-2);
            }
            int was = isle.clerk();
            isle = isle.under(kind);
            undo.clear();
            return was;
        }

        public long vines(int c, int n) {
            if (out(c, 0, 19) || out(n, 0, 9)) {
                return no(-2);
            }
            int had = isle.vines().get(c);
            isle = isle.planted(c, n);
            undo.clear();
            return had;
        }

        public long hill(int kind, int c, int size) {
            if (out(kind, 0, 5) || out(c, 0, 19) || out(size, 0, 59)) {
                return no(-2);
            }
            if (isle.hills().stream().anyMatch(h -> h.cell() == c)) {
                return no(-3);
            }
            if (isle.hills().size() == 7) {
                return no(-4);
            }
            isle = isle.with(new Hill(kind, c, size));
            undo.clear();
            return isle.hills().size() - 1;
        }

        public long type(int c) {
            if (out(c, 0, 127)) {
                return no(-2);
            }
            if (text.length() == 150) {
                return no(-4);
            }
            text += (char) c;
            return text.length();
        }

        public long clear() {
            int had = text.length();
            text = "";
            return had;
        }

        public long read() {
            List<String> tokens = new ArrayList<>();
            List<Integer> places = new ArrayList<>();
            Matcher m = Pattern.compile("[a-z]+|[0-9]+|[^ ]", Pattern.DOTALL).matcher(text);
            while (m.find()) {
                tokens.add(m.group());
                places.add(m.start());
            }
            places.add(text.length());
            Isle told = null;
            int items = 0;
            int at = 0;
            while (at < tokens.size() || items == 0) {
                int end = at;
                while (end < tokens.size() && !tokens.get(end).equals(";")) {
                    end++;
                }
                List<String> item = tokens.subList(at, Math.min(tokens.size(), end + 1));
                int stands = standing(item, told);
                if (stands < item.size() || item.isEmpty() || !item.get(item.size() - 1).equals(";")) {
                    return -10 - places.get(at + stands);
                }
                told = applied(item, told);
                items++;
                at = end + 1;
            }
            startWith(told);
            return items;
        }

        /** How many of an item's tokens can stand where they are. */
        private int standing(List<String> item, Isle told) {
            Isle isle = told;
            for (int k = 0; k < item.size(); k++) {
                String token = item.get(k);
                if (k == 0) {
                    boolean fits = told == null ? token.equals("island")
                            : token.equals("vines") || token.equals("day")
                            || token.equals("hill") && told.hills().size() < 7;
                    if (!fits) {
                        return k;
                    }
                    continue;
                }
                int least = Map.of("island", 1, "vines", 2, "hill", 3, "day", 1).get(item.get(0));
                int most = item.get(0).equals("day") ? 9 : least;
                if (token.equals(";")) {
                    if (k <= least) {
                        return k;
                    }
                } else if (k > most || !token.matches("[0-9]{1,2}") || !numberFits(item.get(0), k, Integer.parseInt(token), isle)) {
                    return k;
                }
            }
            return item.size();
        }

        private boolean numberFits(String word, int k, int v, Isle told) {
            switch (word) {
                case "island":
                    return v <= 5;
                case "vines":
                    return v <= (k == 1 ? 19 : 9);
                case "day":
                    return told.names().contains(v);
                default:
                    return k == 1 ? v <= 5 : k == 3 ? v <= 59 : v <= 19 && told.hills().stream().noneMatch(h -> h.cell() == v);
            }
        }

        private Isle applied(List<String> item, Isle told) {
            int[] v = item.stream().filter(s -> s.matches("[0-9]+")).mapToInt(Integer::parseInt).toArray();
            switch (item.get(0)) {
                case "island":
                    return Isle.first(v[0]);
                case "vines":
                    return told.planted(v[0], v[1]);
                case "hill":
                    return told.with(new Hill(v[0], v[1], v[2]));
                default:
                    for (int visited : v) {
                        told = told.after(visited);
                    }
                    return told;
            }
        }

        public long day(int visited) {
            if (!isle.names().contains(visited)) {
                return no(-2);
            }
            undoable();
            int harm = isle.harm();
            isle = isle.after(visited);
            return isle.harm() - harm;
        }

        public long putBack(int c, int n) {
            if (out(c, 0, 19) || out(n, 1, 9)) {
                return no(-2);
            }
            if (isle.vines().get(c) == 9) {
                return no(-3);
            }
            undoable();
            isle = isle.planted(c, Math.min(9, isle.vines().get(c) + n));
            return isle.vines().get(c);
        }

        public long undo() {
            if (undo.isEmpty()) {
                return no(-3);
            }
            isle = undo.pop();
            return isle.day();
        }

        public long of(int i, int what) {
            if (noHill(i) || out(what, 0, 4)) {
                return no(-2);
            }
            Hill h = isle.hills().get(i);
            return List.of(h.kind(), h.cell(), h.size(), MATTERS.get(h.kind()).grows(h.size(), isle.day() + 1),
                    CLERKS.get(isle.clerk()).falls(h.size(), isle.day() + 1)).get(what);
        }

        public long has(int c) {
            return out(c, 0, 19) ? no(-2) : isle.vines().get(c);
        }

        public long high(int i, int m) {
            return noHill(i) || out(m, 0, 30) ? no(-2) : isle.idle(m).hills().get(i).size();
        }

        public long goes(int i) {
            if (noHill(i)) {
                return no(-2);
            }
            return IntStream.rangeClosed(1, 60).filter(m -> (isle.idle(m).off() >> i & 1) == 1).findFirst().orElse(-1);
        }

        public long lost(int m) {
            return out(m, 0, 30) ? no(-2) : isle.idle(m).harm() - isle.harm();
        }

        public long chain(int i) {
            return noHill(i) ? no(-2) : new Isle(0, isle.hills(), isle.vines(), 0, 0, 0).sized(i, 60).rested().off();
        }

        public long plan(int n, int k) {
            if (out(n, 1, 4) || k < -2 || k == -1) {
                no(-2);
                return -10;
            }
            if (k >= n) {
                return -5;
            }
            List<Integer> names = isle.names();
            int rows = (int) Math.pow(names.size(), n);
            long best = Long.MAX_VALUE;
            int bestRow = 0;
            for (int row = 0; row < rows; row++) {
                Isle then = isle;
                for (int d = 0; d < n; d++) {
                    then = then.after(nameIn(row, d, n, names));
                }
                long cost = 100000L * (then.harm() - isle.harm()) + then.sizes();
                if (cost < best) {
                    best = cost;
                    bestRow = row;
                }
            }
            if (k == -2) {
                return best / 100000;
            }
            int name = nameIn(bestRow, k, n, names);
            return name == 7 ? -1 : name;
        }

        private int nameIn(int row, int d, int n, List<Integer> names) {
            int digit = row;
            for (int e = d + 1; e < n; e++) {
                digit /= names.size();
            }
            return names.get(digit % names.size());
        }

        public long askFirst(int m, int what) {
            if (out(m, 1, 30) || out(what, 0, 1)) {
                return no(-2);
            }
            if (isle.hills().isEmpty()) {
                return -1;
            }
            return leastOf(IntStream.range(0, isle.hills().size())
                    .map(i -> isle.after(i).idle(m - 1).harm() - isle.harm()).toArray(), what);
        }

        public long calm(int m, int what) {
            if (out(m, 1, 30) || out(what, 0, 1)) {
                return no(-2);
            }
            return leastOf(IntStream.range(0, 6).map(kind -> {
                Isle then = isle.under(kind);
                for (int d = 0; d < m; d++) {
                    then = then.after(then.tallest());
                }
                return then.harm() - isle.harm();
            }).toArray(), what);
        }

        private int leastOf(int[] row, int what) {
            int least = Arrays.stream(row).min().getAsInt();
            return what == 1 ? least : IntStream.range(0, row.length).filter(i -> row[i] == least).findFirst().getAsInt();
        }

        public long seen(int i, int t, int x, int y) {
            if (noHill(i) || out(t, 0, 99) || out(x, 0, 59) || out(y, 0, 99)) {
                return no(-2);
            }
            if (seen.size() == 5) {
                return no(-4);
            }
            seen.add(new int[] {i, t, x, y});
            return seen.size();
        }

        private List<Integer> mattersFor(int i) {
            return IntStream.range(0, 6).filter(k -> seen.stream().filter(s -> s[0] == i)
                    .allMatch(s -> s[3] - s[2] == MATTERS.get(k).grows(s[2], s[1] + 1))).boxed().toList();
        }

        private List<Integer> clerksFor() {
            return IntStream.range(0, 6).filter(k -> marks.stream()
                    .allMatch(s -> s[2] == CLERKS.get(k).falls(s[1], s[0]))).boxed().toList();
        }

        private long bits(List<Integer> kinds) {
            return kinds.stream().mapToLong(k -> 1L << k).sum();
        }

        public long which(int i) {
            return noHill(i) ? no(-2) : bits(mattersFor(i));
        }

        public long next(int i) {
            if (noHill(i)) {
                return no(-2);
            }
            List<Integer> fit = mattersFor(i);
            TreeMap<Integer, Long> most = new TreeMap<>();
            for (int x = 0; x <= 50; x += 10) {
                for (int t = 0; t <= 13; t++) {
                    int size = x;
                    int day = t;
                    most.put(100 * x + t, crowd(fit.stream().map(k -> MATTERS.get(k).grows(size, day)).toList()));
                }
            }
            return fit.isEmpty() ? -1 : clearest(most);
        }

        private long crowd(List<Integer> amounts) {
            return amounts.stream().collect(Collectors.groupingBy(a -> a, Collectors.counting()))
                    .values().stream().mapToLong(n -> n).max().orElse(0);
        }

        private long clearest(TreeMap<Integer, Long> most) {
            long least = most.values().stream().mapToLong(n -> n).min().getAsLong();
            return most.entrySet().stream().filter(e -> e.getValue() == least).findFirst().get().getKey();
        }

        public long mark(int t, int x, int y) {
            if (out(t, 0, 99) || out(x, 0, 59) || out(y, 0, 40)) {
                return no(-2);
            }
            if (marks.size() == 6) {
                return no(-4);
            }
            marks.add(new int[] {t, x, y});
            return marks.size();
        }

        public long forget(int what) {
            if (out(what, 0, 1)) {
                return no(-2);
            }
            List<int[]> rows = what == 0 ? seen : marks;
            int had = rows.size();
            rows.clear();
            return had;
        }

        public long kinds() {
            return bits(clerksFor());
        }

        public long look() {
            List<Integer> fit = clerksFor();
            TreeMap<Integer, Long> most = new TreeMap<>();
            for (int x = 0; x <= 59; x++) {
                for (int t = 0; t <= 5; t++) {
                    int size = x;
                    int day = t;
                    most.put(100 * x + t, crowd(fit.stream().map(k -> CLERKS.get(k).falls(size, day)).toList()));
                }
            }
            return fit.isEmpty() ? -1 : clearest(most);
        }

        private int between(int i, int j) {
            Isle before = j == 7 ? isle : isle.sized(j, Math.min(59, isle.hills().get(j).size() + 10));
            return before.after(i).harm() - isle.harm();
        }

        public long waiting(int k) {
            if (k < -1) {
                no(-2);
                return -10;
            }
            List<Integer> resting = new ArrayList<>();
            for (int i : isle.names()) {
                for (int j : isle.names()) {
                    int here = between(i, j);
                    if (isle.names().stream().allMatch(o -> between(o, j) >= here)
                            && isle.names().stream().allMatch(o -> between(i, o) <= here)) {
                        resting.add(10 * i + j);
                    }
                }
            }
            return k == -1 ? resting.size() : k < resting.size() ? resting.get(k) : -5;
        }

        public long chance(int n, int x, int c) {
            if (out(n, 0, 4) || out(x, 0, 50) || out(c, 0, 10)) {
                return no(-2);
            }
            BigInteger sum = BigInteger.ZERO;
            for (int visits = 0; visits < 1 << n; visits++) {
                Isle then = isle;
                for (int d = 0; d < n; d++) {
                    then = then.after((visits >> d & 1) == 1 ? then.tallest() : 7);
                }
                if (then.harm() - isle.harm() >= x) {
                    int went = Integer.bitCount(visits);
                    sum = sum.add(BigInteger.valueOf(c).pow(went).multiply(BigInteger.valueOf(10 - c).pow(n - went)));
                }
            }
            BigInteger whole = BigInteger.TEN.pow(n);
            above = sum.divide(sum.gcd(whole));
            below = whole.divide(sum.gcd(whole));
            return 1;
        }

        public long years(int seed, int n) {
            if (out(seed, 0, 999999) || out(n, 0, 60)) {
                return no(-2);
            }
            BigInteger x = BigInteger.valueOf(seed);
            Isle then = isle;
            for (int d = 0; d < n; d++) {
                x = x.multiply(BigInteger.valueOf(1103515245)).add(BigInteger.valueOf(12345)).mod(BigInteger.TWO.pow(31));
                int name = x.shiftRight(16).intValue() & 7;
                then = then.after(name);
            }
            return then.harm() - isle.harm();
        }

        public long part(int what) {
            return out(what, 0, 1) ? no(-2) : (what == 0 ? above : below).longValue();
        }

        public long image(int i) {
            if (out(i, 0, 1)) {
                return no(-2);
            }
            images[i] = new Kept(isle, List.copyOf(seen), List.copyOf(marks), List.copyOf(undo));
            return 1;
        }

        public long from(int i) {
            if (out(i, 0, 1)) {
                return no(-2);
            }
            if (images[i] == null) {
                return no(-3);
            }
            isle = images[i].isle();
            seen = new ArrayList<>(images[i].seen());
            marks = new ArrayList<>(images[i].marks());
            undo = new ArrayDeque<>(images[i].undo());
            return 1;
        }

        public long status(int what) {
            if (out(what, 0, 2)) {
                no(-2);
                return -1;
            }
            return refused[what];
        }

        public long count(int what) {
            if (out(what, 0, 9)) {
                return no(-2);
            }
            return new int[] {isle.hills().size(), isle.vines().stream().mapToInt(v -> v).sum(), isle.harm(), isle.day(),
                isle.sizes(), isle.clerk(), seen.size(), marks.size(), undo.size(), text.length()}[what];
        }

        public long digest() {
            List<Long> all = new ArrayList<>();
            for (int what = 0; what <= 9; what++) {
                all.add(count(what));
            }
            for (Hill h : isle.hills()) {
                all.add((long) h.kind());
                all.add((long) h.cell());
                all.add((long) h.size());
            }
            isle.vines().forEach(v -> all.add((long) v));
            seen.forEach(s -> Arrays.stream(s).forEach(v -> all.add((long) v)));
            marks.forEach(s -> Arrays.stream(s).forEach(v -> all.add((long) v)));
            all.add(above.longValue());
            all.add(below.longValue());
            long h = 1877;
            for (long v : all) {
                h = 31 * h + v;
            }
            return h;
        }
    }

    // ---- the runs

    /** How likely a call is, and the ranges its numbers are taken from, a little beyond what is right. */
    private record Call(String name, int weight, int... ranges) {
    }

    private static final List<Call> CALLS_OF_A_RUN = List.of(
            new Call("island", 1, -1, 6), new Call("clerk", 4, -1, 6), new Call("vines", 8, -1, 20, -1, 10),
            new Call("hill", 16, -1, 6, -1, 20, -1, 60), new Call("type", 3, -1, 128), new Call("clear", 1),
            new Call("read", 1), new Call("day", 60, -1, 8), new Call("putBack", 16, -1, 20, 0, 10),
            new Call("undo", 14), new Call("of", 10, -1, 7, -1, 5), new Call("has", 4, -1, 20),
            new Call("high", 6, -1, 7, -1, 31), new Call("goes", 4, -1, 7), new Call("lost", 4, -1, 31),
            new Call("chain", 6, -1, 7), new Call("plan", 3, 0, 5, -3, 5), new Call("askFirst", 5, 0, 31, -1, 2),
            new Call("calm", 3, 0, 31, -1, 2), new Call("seen", 8, -1, 7, -1, 100, -1, 60, -1, 100),
            new Call("which", 6, -1, 7), new Call("next", 4, -1, 7), new Call("mark", 8, -1, 100, -1, 60, -1, 41),
            new Call("forget", 3, -1, 2), new Call("kinds", 4), new Call("look", 2), new Call("waiting", 4, -2, 9),
            new Call("chance", 5, -1, 5, -1, 51, -1, 11), new Call("years", 5, -1, 1000000, -1, 61),
            new Call("part", 6, -1, 2), new Call("image", 3, -1, 2), new Call("from", 3, -1, 2),
            new Call("status", 3, -1, 3), new Call("count", 6, -1, 10), new Call("digest", 10));

    private static final Map<String, Method> REAL = Arrays.stream(SlateHills.class.getDeclaredMethods())
            .filter(m -> java.lang.reflect.Modifier.isPublic(m.getModifiers()))
            .collect(Collectors.toMap(Method::getName, m -> m));
    private static final Map<String, Method> MODEL = Arrays.stream(Model.class.getDeclaredMethods())
            .filter(m -> java.lang.reflect.Modifier.isPublic(m.getModifiers()))
            .collect(Collectors.toMap(Method::getName, m -> m));

    private static int wrong = 0;
    private static int faults = 0;
    private static int islandsRead = 0;

    private static long ask(Method m, Object on, Object[] args) {
        try {
            return ((Number) m.invoke(on, args)).longValue();
        } catch (InvocationTargetException | IllegalAccessException e) {
            throw new IllegalStateException(m.getName() + Arrays.toString(args), e);
        }
    }

    private static long both(int run, SlateHills x, Model model, String name, Object... args) {
        long want = ask(MODEL.get(name), model, args);
        long got = ask(REAL.get(name), x, args);
        if (got != want && wrong++ < 20) {
            System.out.println("run " + run + ": " + name + Arrays.toString(args) + " answered " + got + ", due is " + want);
        }
        return got;
    }

    private static Object[] argsOf(Call call, Random random) {
        Object[] args = new Object[call.ranges().length / 2];
        for (int a = 0; a < args.length; a++) {
            int least = call.ranges()[2 * a];
            int most = call.ranges()[2 * a + 1];
            int v = least + 1 + random.nextInt(most - least - 1);
            int odd = random.nextInt(60);
            args[a] = odd == 0 ? least : odd == 1 ? most : odd == 2 ? random.nextInt() : v;
        }
        // what is seen and marked at random fits no kind: take amounts that some kind may have
        if (call.name().equals("seen") && random.nextInt(8) != 0) {
            int t = (Integer) args[1];
            int x = (Integer) args[2];
            args[3] = x + MATTERS.get(random.nextInt(6)).grows(Math.abs(x % 60), Math.abs(t % 100) + 1);
        }
        if (call.name().equals("mark") && random.nextInt(8) != 0) {
            int kind = Math.abs((Integer) args[0] % 3);
            args[2] = CLERKS.get(kind).falls(Math.abs((Integer) args[1] % 60), Math.abs((Integer) args[0] % 100));
        }
        return args;
    }

    private static String someText(Random random) {
        StringBuilder text = new StringBuilder("island " + random.nextInt(6) + ";");
        while (text.length() < 60 + random.nextInt(90)) {
            switch (random.nextInt(5)) {
                case 0:
                    text.append("vines ").append(random.nextInt(20)).append(' ').append(random.nextInt(10));
                    break;
                case 1:
                case 2:
                    text.append("hill ").append(random.nextInt(6)).append(' ').append(random.nextInt(20))
                            .append(random.nextBoolean() ? " " : "  ").append(random.nextInt(60));
                    break;
                default:
                    text.append("day");
                    for (int n = random.nextInt(9); n >= 0; n--) {
                        text.append(' ').append(random.nextInt(3) == 0 ? 0 : 7);
                    }
                    break;
            }
            text.append(random.nextInt(8) == 0 ? " ; " : ";");
        }
        if (random.nextInt(3) == 0) {
            String signs = "0123456789;; az-~\n";
            text.setCharAt(random.nextInt(text.length()), signs.charAt(random.nextInt(signs.length())));
        }
        if (random.nextInt(6) == 0) {
            text.setLength(random.nextInt(text.length()));
        }
        return text.toString();
    }

    private static void readSomeText(int run, SlateHills x, Model model, Random random) {
        both(run, x, model, "clear");
        String text = someText(random);
        for (int i = 0; i < text.length(); i++) {
            both(run, x, model, "type", (int) text.charAt(i));
        }
        if (both(run, x, model, "read") < 0) {
            faults++;
        } else {
            islandsRead++;
        }
        both(run, x, model, "digest");
    }

    private static void run(int run) {
        Random random = new Random(run);
        SlateHills x = new SlateHills();
        Model model = new Model();
        int weights = CALLS_OF_A_RUN.stream().mapToInt(Call::weight).sum();
        if (run % 2 == 0) {
            readSomeText(run, x, model, random);
        }
        for (int n = run % 2 == 0 ? 160 : 0; n < CALLS; n++) {
            int pick = random.nextInt(weights);
            int k = 0;
            while (pick >= CALLS_OF_A_RUN.get(k).weight()) {
                pick -= CALLS_OF_A_RUN.get(k).weight();
                k++;
            }
            Call call = CALLS_OF_A_RUN.get(k);
            both(run, x, model, call.name(), argsOf(call, random));
        }
        both(run, x, model, "digest");
    }

    private static void texts() {
        Random random = new Random(-1);
        for (int n = 0; n < 3000; n++) {
            readSomeText(-1 - n, new SlateHills(), new Model(), random);
        }
    }

    public static void main(String[] args) {
        texts();
        for (int run = 0; run < RUNS; run++) {
            run(run);
        }
        System.out.println(islandsRead + " islands were read, " + faults + " texts had a fault");
        System.out.println(wrong == 0 ? "the class answers as the model does" : wrong + " answers are not the model's");
        if (wrong != 0 || islandsRead < 100 || faults < 100) {
            System.exit(1);
        }
    }
}
