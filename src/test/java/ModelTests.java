import java.lang.reflect.Method;
import java.lang.reflect.Modifier;
import java.math.BigInteger;
import java.util.ArrayDeque;
import java.util.ArrayList;
import java.util.Arrays;
import java.util.Deque;
import java.util.List;
import java.util.Random;
import java.util.regex.Matcher;
import java.util.regex.Pattern;

/** Random runs of calls (fixed seeds) against a second program that answers by trying all ways. */
public final class ModelTests {
    private static final int RUNS = 6000;
    private static final int CALLS = 512;
    private static final int SWEPT = 6, CALLS_SWEPT = 300;
    private static final int[] AT_EDGES = {Integer.MIN_VALUE, -1000000, -10, -5, -2, -1, 0, 1, 2, 3, 4, 5, 6, 7, 10, 11, 31, 32, 33, 255, 256,
        Integer.MAX_VALUE};
    private static final int BAD = -1, STATE = -2, FULL = -3, NONE = -9, NO = -1000000;

    private static int wrong = 0;

    public static void main(String[] args) {
        long asked = 0;
        int[] faults = new int[2];
        for (int run = 0; run < RUNS && wrong == 0; run++) {
            asked += oneRun(run, faults);
        }
        for (int seed = 0; seed < SWEPT && wrong == 0; seed++) {
            asked += sweep(seed);
        }
        System.out.println(wrong == 0 ? asked + " answers are as due; texts told: " + faults[0]
                + ", at fault: " + faults[1] : "the model answers otherwise");
        if (wrong != 0) {
            System.exit(1);
        }
    }

    /** Every call with every row of these numbers, in a house in which something has been done. */
    private static long sweep(int seed) {
        long asked = 0;
        for (Method method : CradleBills.class.getDeclaredMethods()) {
            if (Modifier.isPublic(method.getModifiers()) && !method.getName().equals("trace")) {
                asked += sweepOf(method, seed);
            }
        }
        return asked;
    }

    private static long sweepOf(Method method, int seed) {
        int count = method.getParameterCount();
        int ways = 1;
        for (int i = 0; i < count; i++) {
            ways *= AT_EDGES.length;
        }
        CradleBills x = null;
        Model model = null;
        List<String> log = new ArrayList<>();
        for (int way = 0; way < ways && wrong == 0; way++) {
            if (way % CALLS_SWEPT == 0) {
                x = new CradleBills();
                model = new Model();
                log.clear();
                begun(new Random(seed), x, model, log);
            }
            Object[] numbers = new Object[count];
            for (int i = 0, rest = way; i < count; i++, rest /= AT_EDGES.length) {
                numbers[i] = AT_EDGES[rest % AT_EDGES.length];
            }
            compare(log, method.getName() + Arrays.toString(numbers), answer(method, x, numbers), answer(sameOf(method), model, numbers));
        }
        if (wrong != 0) {
            System.out.println("swept, seed " + seed + ":");
            log.forEach(System.out::println);
        }
        return ways;
    }

    /** A house with all that may be in it, told in some 130 letters, and 40 calls on it. */
    private static void begun(Random random, CradleBills x, Model model, List<String> log) {
        StringBuilder text = new StringBuilder();
        for (int w = 0; w < 6; w++) {
            text.append("w").append(random.nextInt(4)).append(" ").append(random.nextInt(6)).append(";");
        }
        for (int m = 0; m < 5; m++) {
            text.append("m").append(random.nextInt(100));
            for (int k = 0; k < 2 + m; k++) {
                text.append(" ").append(random.nextInt(6));
            }
            text.append(";");
        }
        for (int b = 0; b < 4; b++) {
            text.append("b").append(random.nextInt(10)).append(" ").append(random.nextInt(4)).append(" ").append(1 + random.nextInt(9)).append(";");
        }
        for (int i = 0; i < text.length(); i++) {
            compare(log, "type(" + (int) text.charAt(i) + ")", x.type(text.charAt(i)), model.type(text.charAt(i)));
        }
        compare(log, "house()", x.house(), model.house());
        for (int i = 0; i < 40; i++) {
            anyCall(random, x, model, log);
        }
    }

    private static Method sameOf(Method method) {
        try {
            return Model.class.getDeclaredMethod(method.getName(), method.getParameterTypes());
        } catch (NoSuchMethodException none) {
            throw new IllegalStateException("the model has no " + method.getName(), none);
        }
    }

    private static long answer(Method method, Object on, Object[] numbers) {
        try {
            return ((Number) method.invoke(on, numbers)).longValue();
        } catch (ReflectiveOperationException thrown) {
            throw new IllegalStateException(method.getName() + Arrays.toString(numbers) + " has thrown", thrown);
        }
    }

    private static int oneRun(int seed, int[] faults) {
        Random random = new Random(seed);
        CradleBills x = new CradleBills();
        Model model = new Model();
        List<String> log = new ArrayList<>();
        int calls = 0;
        while (calls < CALLS && wrong == 0) {
            if (calls == 0 || random.nextInt(90) == 0) {
                String text = randomText(random);
                if (random.nextInt(20) == 0) {
                    calls++;
                    compare(log, "clear()", x.clear(), model.clear());
                }
                for (int i = 0; i < text.length() && calls < CALLS; i++, calls++) {
                    int letter = text.charAt(i);
                    compare(log, "type(" + letter + ")", x.type(letter), model.type(letter));
                }
                calls++;
                int due = model.house();
                faults[due < 0 ? 1 : 0]++;
                compare(log, "house()", x.house(), due);
                if (due < 0 && random.nextInt(4) != 0) {
                    calls++;
                    compare(log, "clear()", x.clear(), model.clear());
                }
            } else {
                calls++;
                anyCall(random, x, model, log);
            }
        }
        if (wrong != 0) {
            System.out.println("seed " + seed + ":");
            log.forEach(System.out::println);
        }
        return calls;
    }

    private static void compare(List<String> log, String call, long got, long want) {
        log.add(call + " = " + got);
        if (got != want) {
            wrong++;
            log.add("  due is " + want);
        }
    }

    /** Mostly within 0 .. most, at times outside it. */
    private static int number(Random random, int most) {
        int dice = random.nextInt(60);
        if (dice == 0) {
            return -1 - random.nextInt(2);
        }
        if (dice == 1) {
            return most + 1;
        }
        if (dice == 2) {
            return random.nextInt();
        }
        return random.nextInt(most + 1);
    }

    private static void anyCall(Random random, CradleBills x, Model model, List<String> log) {
        int m = number(random, Math.max(0, model.motions.size() - 1));
        int b = number(random, Math.max(0, model.babies.size() - 1));
        int k = number(random, 6);
        int what = number(random, 1);
        String pair = m + ", " + b;
        switch (random.nextInt(30)) {
            case 0: { int w = number(random, 5); compare(log, "word(" + w + ", " + what + ")", x.word(w, what), model.word(w, what)); break; }
            case 1: { int f = number(random, 2); compare(log, "motion(" + m + ", " + f + ")", x.motion(m, f), model.motion(m, f)); break; }
            case 2: compare(log, "said(" + m + ", " + k + ")", x.said(m, k), model.said(m, k)); break;
            case 3: { int f = number(random, 4); compare(log, "baby(" + b + ", " + f + ")", x.baby(b, f), model.baby(b, f)); break; }
            case 4: { int f = number(random, 5); compare(log, "now(" + f + ")", x.now(f), model.now(f)); break; }
            case 5: compare(log, "reads(" + pair + ")", x.reads(m, b), model.reads(m, b)); break;
            case 6: case 7: compare(log, "rocks(" + b + ")", x.rocks(b), model.rocks(b)); break;
            case 8: compare(log, "feeds(" + b + ")", x.feeds(b), model.feeds(b)); break;
            case 9: compare(log, "undo()", x.undo(), model.undo()); break;
            case 10: compare(log, "would(" + pair + ")", x.would(m, b), model.would(m, b)); break;
            case 11: compare(log, "deep(" + pair + ")", x.deep(m, b), model.deep(m, b)); break;
            case 12: compare(log, "rockings(" + pair + ")", x.rockings(m, b), model.rockings(m, b)); break;
            case 13: case 14: compare(log, "wording(" + pair + ", " + k + ")", x.wording(m, b, k), model.wording(m, b, k)); break;
            case 15: case 16: compare(log, "noise(" + pair + ", " + what + ")", x.noise(m, b, what), model.noise(m, b, what)); break;
            case 17: case 18: { int odds = number(random, 10); compare(log, "odds(" + pair + ", " + odds + ", " + what + ")", x.odds(m, b, odds, what), model.odds(m, b, odds, what)); break; }
            case 19: compare(log, "match(-1)", x.match(-1), model.match(-1)); break;
            case 20: compare(log, "match(" + m + ")", x.match(m), model.match(m)); break;
            case 21: compare(log, "agenda(" + b + ", -1)", x.agenda(b, -1), model.agenda(b, -1)); break;
            case 22: { int f = number(random, 5); compare(log, "agenda(" + b + ", " + f + ")", x.agenda(b, f), model.agenda(b, f)); break; }
            case 23: compare(log, "hears(" + b + ", " + k + ")", x.hears(b, k), model.hears(b, k)); break;
            case 24: if (random.nextInt(3) == 0) { compare(log, "forget()", x.forget(), model.forget()); } break;
            case 25: compare(log, "which()", x.which(), model.which()); break;
            case 26: { int kind = number(random, 5); compare(log, "rate(" + kind + ", " + b + ")", x.rate(kind, b), model.rate(kind, b)); break; }
            case 27: compare(log, "keep(" + what + ")", x.keep(what), model.keep(what)); break;
            case 28: if (random.nextInt(4) == 0) { compare(log, "back(" + what + ")", x.back(what), model.back(what)); } break;
            default: { int f = number(random, 4); compare(log, "count(" + f + ")", x.count(f), model.count(f)); compare(log, "trace()", x.trace(), model.trace); break; }
        }
    }

    private static String blanks(Random random) {
        return random.nextInt(12) == 0 ? " " : "";
    }

    private static String randomText(Random random) {
        StringBuilder text = new StringBuilder();
        int words = 1 + random.nextInt(6);
        int loudest = random.nextInt(4) == 0 ? 10 : 4;
        for (int w = 0; w < words; w++) {
            text.append("w").append(blanks(random)).append(random.nextInt(loudest)).append(" ")
                    .append(random.nextInt(6)).append(blanks(random)).append(";");
        }
        int motions = random.nextInt(6);
        int most = random.nextInt(3) == 0 ? 3 : 100;
        for (int m = 0; m < motions; m++) {
            text.append("m").append(random.nextInt(most));
            int length = 1 + random.nextInt(6);
            for (int k = 0; k < length; k++) {
                text.append(" ").append(random.nextInt(words));
            }
            text.append(";");
        }
        int babies = random.nextInt(5);
        for (int b = 0; b < babies; b++) {
            text.append(blanks(random)).append("b").append(random.nextInt(10)).append(" ")
                    .append(random.nextInt(4)).append(" ").append(1 + random.nextInt(random.nextBoolean() ? 10 : 99)).append(";");
        }
        return random.nextInt(3) == 0 ? spoilt(random, text) : text.toString();
    }

    private static String spoilt(Random random, StringBuilder text) {
        String signs = "wmb;0123456789 ;wmb x00";
        int times = 1 + random.nextInt(2);
        for (int i = 0; i < times && text.length() > 0; i++) {
            int at = random.nextInt(text.length());
            char sign = random.nextInt(30) == 0 ? (char) random.nextInt(256) : signs.charAt(random.nextInt(signs.length()));
            switch (random.nextInt(4)) {
                case 0: text.setCharAt(at, sign); break;
                case 1: text.insert(at, sign); break;
                case 2: text.deleteCharAt(at); break;
                default: text.setLength(at); break;
            }
        }
        return text.toString();
    }

    /** What is NOW, never changed once it is made. */
    private record Now(int minute, List<Integer> depths, List<Integer> fed, List<Integer> fates) {
        Now with(int minutes, int b, int depth) {
            List<Integer> changed = new ArrayList<>(depths);
            changed.set(b, depth);
            return new Now(minute + minutes, changed, fed, fates);
        }
    }

    private static final class Model {
        String text = "";
        List<int[]> words = new ArrayList<>();
        List<int[]> motions = new ArrayList<>();
        List<int[]> babies = new ArrayList<>();
        Now now = new Now(0, List.of(), List.of(), List.of());
        Deque<Now> past = new ArrayDeque<>();
        Now[] images = new Now[2];
        List<int[]> heard = new ArrayList<>();
        long trace = 0;

        int type(int letter) {
            if (letter < 0 || letter > 255) return BAD;
            if (text.length() == 200) return FULL;
            text += (char) letter;
            return text.length();
        }

        int clear() {
            int had = text.length();
            text = "";
            return had;
        }

        int house() {
            List<int[]> w = new ArrayList<>(), m = new ArrayList<>(), b = new ArrayList<>();
            Matcher tokens = Pattern.compile("[0-9]+|[^ 0-9]", Pattern.DOTALL).matcher(text);
            List<Integer> item = null;
            char kind = 0;
            while (tokens.find()) {
                String token = tokens.group();
                int fault = -10 - tokens.start();
                if (item == null) {
                    kind = token.charAt(0);
                    boolean fits = token.equals("w") && w.size() < 6 || token.equals("m") && m.size() < 5
                            || token.equals("b") && b.size() < 4;
                    if (!fits) return fault;
                    item = new ArrayList<>();
                } else if (token.equals(";")) {
                    int least = kind == 'b' ? 3 : 2;
                    if (item.size() < least) return fault;
                    int[] row = item.stream().mapToInt(Integer::intValue).toArray();
                    (kind == 'w' ? w : kind == 'm' ? m : b).add(row);
                    item = null;
                } else {
                    if (!token.matches("0|[1-9][0-9]?")) return fault;
                    int n = Integer.parseInt(token);
                    int[][] limits = kind == 'w' ? new int[][] {{0, 9}, {0, 5}}
                            : kind == 'b' ? new int[][] {{0, 9}, {0, 3}, {1, 99}} : limitsOfMotion(w.size());
                    if (item.size() >= limits.length) return fault;
                    if (n < limits[item.size()][0] || n > limits[item.size()][1]) return fault;
                    item.add(n);
                }
            }
            if (item != null) return -10 - text.length();
            begin(w, m, b);
            return w.size() + m.size() + b.size();
        }

        private static int[][] limitsOfMotion(int words) {
            int[][] limits = new int[7][];
            Arrays.fill(limits, new int[] {0, words - 1});
            limits[0] = new int[] {0, 99};
            return limits;
        }

        private void begin(List<int[]> w, List<int[]> m, List<int[]> b) {
            words = w;
            motions = m;
            babies = b;
            List<Integer> depths = new ArrayList<>(), fed = new ArrayList<>(), fates = new ArrayList<>();
            for (int[] one : b) {
                depths.add(one[0]);
                fed.add(0);
            }
            for (int i = 0; i < m.size(); i++) fates.add(0);
            now = new Now(0, depths, fed, fates);
            past.clear();
            images = new Now[2];
            heard.clear();
            text = "";
        }

        private static boolean in(int i, List<?> list) {
            return i >= 0 && i < list.size();
        }

        private boolean pair(int m, int b) {
            return in(m, motions) && in(b, babies);
        }

        int word(int w, int what) {
            return in(w, words) && (what == 0 || what == 1) ? words.get(w)[what] : BAD;
        }

        int motion(int m, int what) {
            if (!in(m, motions) || what < 0 || what > 2) return BAD;
            return what == 0 ? motions.get(m)[0] : what == 1 ? motions.get(m).length - 1 : now.fates().get(m);
        }

        int said(int m, int k) {
            if (!in(m, motions) || k < 0 || k > motions.get(m).length - 2) return BAD;
            return motions.get(m)[k + 1];
        }

        private boolean hungry(int b) {
            return now.minute() >= now.fed().get(b) + babies.get(b)[2];
        }

        int baby(int b, int what) {
            if (!in(b, babies) || what < 0 || what > 4) return BAD;
            return new int[] {now.depths().get(b), babies.get(b)[1], babies.get(b)[2], now.fed().get(b), hungry(b) ? 1 : 0}[what];
        }

        int now(int what) {
            int carried = 0, lost = 0, earned = 0, asleep = 0;
            for (int m = 0; m < motions.size(); m++) {
                if (now.fates().get(m) == 1) {
                    carried += 1 << m;
                    earned += motions.get(m)[0];
                }
                if (now.fates().get(m) == 2) lost += 1 << m;
            }
            for (int b = 0; b < babies.size(); b++) {
                if (now.depths().get(b) != 0) asleep += 1 << b;
            }
            if (what < 0 || what > 5) return BAD;
            return new int[] {now.minute(), carried, lost, earned, asleep, past.size()}[what];
        }

        /** The DEPTHS behind each WORD, up to the one that wakes it. */
        private List<Integer> course(List<Integer> order, int[] louder, int depth, int b) {
            int ears = babies.get(b)[1] * (hungry(b) ? 2 : 1);
            List<Integer> course = new ArrayList<>();
            int d = depth;
            for (int k = 0; k < order.size(); k++) {
                int[] w = words.get(order.get(k));
                d += w[1];
                d -= (w[0] + louder[k]) * ears;
                if (d < 0) d = 0;
                if (d > 9) d = 9;
                course.add(d);
                if (d == 0) break;
            }
            return course;
        }

        private List<Integer> text(int m) {
            List<Integer> order = new ArrayList<>();
            for (int k = 1; k < motions.get(m).length; k++) order.add(motions.get(m)[k]);
            return order;
        }

        private boolean sleeps(List<Integer> order, int[] louder, int depth, int b) {
            return depth != 0 && !course(order, louder, depth, b).contains(0);
        }

        private boolean carries(int m, int b) {
            return sleeps(text(m), new int[6], now.depths().get(b), b);
        }

        private void remember() {
            past.addLast(now);
            if (past.size() > 10) past.removeFirst();
        }

        int reads(int m, int b) {
            if (!pair(m, b)) return BAD;
            if (now.fates().get(m) != 0 || now.depths().get(b) == 0) return STATE;
            List<Integer> course = course(text(m), new int[6], now.depths().get(b), b);
            int last = course.get(course.size() - 1);
            remember();
            List<Integer> fates = new ArrayList<>(now.fates());
            fates.set(m, last == 0 ? 2 : 1);
            Now next = now.with(course.size(), b, last);
            now = new Now(next.minute(), next.depths(), next.fed(), fates);
            return last == 0 ? course.size() - 1 : -5;
        }

        int rocks(int b) {
            if (!in(b, babies)) return BAD;
            remember();
            now = now.with(2, b, Math.min(9, now.depths().get(b) + 3));
            return now.depths().get(b);
        }

        int feeds(int b) {
            if (!in(b, babies)) return BAD;
            remember();
            Now next = now.with(3, b, 0);
            List<Integer> fed = new ArrayList<>(now.fed());
            fed.set(b, next.minute());
            now = new Now(next.minute(), next.depths(), fed, next.fates());
            return now.minute();
        }

        int undo() {
            if (past.isEmpty()) return STATE;
            now = past.removeLast();
            return past.size();
        }

        int would(int m, int b) {
            if (!pair(m, b)) return BAD;
            if (now.depths().get(b) == 0) return NONE;
            return course(text(m), new int[6], now.depths().get(b), b).indexOf(0) == -1 ? -5
                    : course(text(m), new int[6], now.depths().get(b), b).size() - 1;
        }

        int deep(int m, int b) {
            if (!pair(m, b)) return BAD;
            int least = NONE;
            for (int depth = 9; depth >= 1; depth--) {
                if (sleeps(text(m), new int[6], depth, b)) least = depth;
            }
            return least;
        }

        int rockings(int m, int b) {
            if (!pair(m, b)) return BAD;
            int least = NONE;
            for (int times = 4; times >= 0; times--) {
                int depth = Math.min(9, now.depths().get(b) + 3 * times);
                if (sleeps(text(m), new int[6], depth, b)) least = times;
            }
            return least;
        }

        private static void allOrders(List<Integer> begun, List<Integer> left, List<List<Integer>> all) {
            if (left.isEmpty()) all.add(begun);
            for (int i = 0; i < left.size(); i++) {
                List<Integer> more = new ArrayList<>(begun), rest = new ArrayList<>(left);
                more.add(rest.remove(i));
                allOrders(more, rest, all);
            }
        }

        private static int compare(List<Integer> a, List<Integer> b) {
            for (int i = 0; i < a.size() && i < b.size(); i++) {
                if (!a.get(i).equals(b.get(i))) return a.get(i) - b.get(i);
            }
            return a.size() - b.size();
        }

        int wording(int m, int b, int k) {
            if (!pair(m, b) || k < 0) return BAD;
            List<List<Integer>> all = new ArrayList<>();
            allOrders(List.of(), text(m), all);
            List<Integer> first = null;
            for (List<Integer> order : all) {
                if (sleeps(order, new int[6], now.depths().get(b), b) && (first == null || compare(order, first) < 0)) first = order;
            }
            return first == null ? NONE : k < first.size() ? first.get(k) : -5;
        }

        int noise(int m, int b, int what) {
            if (!pair(m, b) || what < 0 || what > 1) return BAD;
            if (!carries(m, b)) return NONE;
            int least = 10, place = NONE;
            for (int k = 0; k < text(m).size(); k++) {
                for (int n = 1; n <= 9; n++) {
                    int[] louder = new int[6];
                    louder[k] = n;
                    if (n < least && !sleeps(text(m), louder, now.depths().get(b), b)) {
                        least = n;
                        place = k;
                    }
                }
            }
            return least == 10 ? NONE : what == 0 ? least : place;
        }

        int odds(int m, int b, int x, int what) {
            if (!pair(m, b) || x < 0 || x > 10 || what < 0 || what > 1) return BAD;
            int ears = babies.get(b)[1] * (hungry(b) ? 2 : 1);
            BigInteger[] cases = new BigInteger[10];
            Arrays.fill(cases, BigInteger.ZERO);
            cases[now.depths().get(b)] = BigInteger.ONE;
            for (int w : text(m)) {
                BigInteger[] next = new BigInteger[10];
                Arrays.fill(next, BigInteger.ZERO);
                for (int d = 1; d <= 9; d++) {
                    for (int more = 0; more <= 1; more++) {
                        int to = Math.max(0, Math.min(9, d + words.get(w)[1] - (words.get(w)[0] + more) * ears));
                        next[to] = next[to].add(cases[d].multiply(BigInteger.valueOf(more == 1 ? x : 10 - x)));
                    }
                }
                cases = next;
            }
            BigInteger upper = BigInteger.ZERO, lower = BigInteger.TEN.pow(text(m).size());
            for (int d = 1; d <= 9; d++) upper = upper.add(cases[d]);
            BigInteger common = upper.gcd(lower);
            return (what == 0 ? upper : lower).divide(common).intValueExact();
        }

        int match(int m) {
            if (m != -1 && !in(m, motions)) return BAD;
            int n = motions.size(), choices = babies.size() + 1, ways = 1;
            for (int i = 0; i < n; i++) ways *= choices;
            int best = -1;
            int[] bestWay = new int[n];
            for (int way = 0; way < ways; way++) {
                int[] given = new int[n];
                int rest = way;
                for (int i = n - 1; i >= 0; i--) {
                    given[i] = rest % choices - 1;
                    rest /= choices;
                }
                int worth = worthOfWay(given);
                if (worth > best) {
                    best = worth;
                    bestWay = given;
                }
            }
            return m == -1 ? best : bestWay[m] == -1 ? NONE : bestWay[m];
        }

        private int worthOfWay(int[] given) {
            int worth = 0, taken = 0;
            for (int m = 0; m < given.length; m++) {
                int b = given[m];
                if (b == -1) continue;
                if (now.fates().get(m) != 0 || now.depths().get(b) == 0 || (taken & 1 << b) != 0) return -1;
                taken |= 1 << b;
                if (carries(m, b)) worth += motions.get(m)[0];
            }
            return worth;
        }

        int agenda(int b, int k) {
            if (!in(b, babies) || k < -1) return BAD;
            List<Integer> open = new ArrayList<>();
            for (int m = 0; m < motions.size(); m++) {
                if (now.fates().get(m) == 0) open.add(m);
            }
            List<Integer> best = List.of();
            for (int bits = 0; bits < 1 << open.size(); bits++) {
                List<Integer> some = new ArrayList<>();
                for (int i = 0; i < open.size(); i++) {
                    if ((bits >> i & 1) == 1) some.add(open.get(i));
                }
                List<List<Integer>> all = new ArrayList<>();
                allOrders(List.of(), some, all);
                for (List<Integer> row : all) {
                    if (allCarried(row, b) && isBetter(row, best)) best = row;
                }
            }
            return k == -1 ? worth(best) : k < best.size() ? best.get(k) : -5;
        }

        private boolean allCarried(List<Integer> row, int b) {
            List<Integer> together = new ArrayList<>();
            for (int m : row) together.addAll(text(m));
            return row.isEmpty() || sleeps(together, new int[30], now.depths().get(b), b);
        }

        private int worth(List<Integer> row) {
            return row.stream().mapToInt(m -> motions.get(m)[0]).sum();
        }

        private boolean isBetter(List<Integer> a, List<Integer> b) {
            if (worth(a) != worth(b)) return worth(a) > worth(b);
            return a.size() != b.size() ? a.size() < b.size() : compare(a, b) < 0;
        }

        int hears(int b, int place) {
            if (!in(b, babies) || place < 0 || place > 6) return BAD;
            if (heard.size() == 6) return FULL;
            heard.add(new int[] {b, place});
            return heard.size();
        }

        int forget() {
            int had = heard.size();
            heard.clear();
            return had;
        }

        int which() {
            int bits = 0;
            for (int m = 0; m < motions.size(); m++) {
                boolean all = true;
                for (int[] one : heard) {
                    int is = would(m, one[0]);
                    all &= is != NONE && (is == -5 ? 6 : is) == one[1];
                }
                if (all) bits |= 1 << m;
            }
            return bits;
        }

        int rate(int kind, int b) {
            if (kind < 0 || kind > 5 || !in(b, babies)) return NO;
            int[] traces = {1, 11, 101, 1011, 10101, 100001};
            trace += traces[kind];
            int depth = now.depths().get(b), ears = babies.get(b)[1], twin = depth - (hungry(b) ? 5 : 0);
            return new int[] {depth, depth + ears, twin, 2 * depth + 2 * ears, twin + b, depth + now(3)}[kind];
        }

        int keep(int image) {
            if (image != 0 && image != 1) return BAD;
            images[image] = now;
            return now.minute();
        }

        int back(int image) {
            if (image != 0 && image != 1) return BAD;
            if (images[image] == null) return STATE;
            now = images[image];
            past.clear();
            return now.minute();
        }

        int count(int what) {
            if (what < 0 || what > 4) return BAD;
            return new int[] {words.size(), motions.size(), babies.size(), heard.size(), text.length()}[what];
        }
    }
}
