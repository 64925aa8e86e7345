import java.math.BigInteger;
import java.util.ArrayDeque;
import java.util.ArrayList;
import java.util.Arrays;
import java.util.HashMap;
import java.util.List;
import java.util.Map;
import java.util.TreeSet;

/**
 * The document once more, in the slowest and plainest form: all that a node knows as a list of every sum, all sets of
 * links tried, all ways to fail counted, states copied whole. It shares no way of working with the class.
 */
final class Model {
    /** All that may be undone. */
    private static final class State implements Cloneable {
        int n = 4, k = 4, manner = 0, span = 1, round = 0;
        long draw = 1;
        List<boolean[][]> plan = new ArrayList<>(List.<boolean[][]>of(pathOf(4)));
        List<TreeSet<Integer>> known = new ArrayList<>();
        List<TreeSet<Integer>> sent = new ArrayList<>();

        State() {
            lose();
        }

        void lose() {
            known.clear();
            sent.clear();
            for (int v = 0; v < n; v++) {
                known.add(new TreeSet<>(List.of(0)));
                sent.add(new TreeSet<>());
            }
            round = 0;
        }

        State copy() {
            State s = new State();
            s.n = n;
            s.k = k;
            s.manner = manner;
            s.span = span;
            s.round = round;
            s.draw = draw;
            s.plan = new ArrayList<>(plan);
            s.known.clear();
            s.sent.clear();
            for (int v = 0; v < n; v++) {
                s.known.add(new TreeSet<>(known.get(v)));
                s.sent.add(new TreeSet<>(sent.get(v)));
            }
            return s;
        }

        boolean[][] links(int r) {
            return plan.get(r / span % plan.size());
        }

        int x() {
            draw = BigInteger.valueOf(draw).multiply(BigInteger.valueOf(1103515245)).add(BigInteger.valueOf(12345))
                .mod(BigInteger.ONE.shiftLeft(31)).longValue();
            return (int) (draw / 65536);
        }
    }

    private static final class Fault extends RuntimeException {
        private static final long serialVersionUID = 1L;
        final int place;

        Fault(int place) {
            super(null, null, false, false);
            this.place = place;
        }
    }

    private State s = new State();
    private ArrayDeque<State> past = new ArrayDeque<>();
    private State keptState;
    private ArrayDeque<State> keptPast;
    private String tape = "";
    private final Object[] sheets = new Object[4];

    // ---- sums

    static TreeSet<Integer> with(TreeSet<Integer> known, int sum) {
        TreeSet<Integer> more = new TreeSet<>(known);
        for (int x : known) {
            more.add(x ^ sum);
        }
        return more;
    }

    static int rank(TreeSet<Integer> known) {
        return Integer.numberOfTrailingZeros(known.size());
    }

    static List<Integer> itsSums(TreeSet<Integer> known) {
        TreeSet<Integer> greatest = new TreeSet<>();
        for (int x : known) {
            if (x != 0) {
                greatest.add(Integer.highestOneBit(x));
            }
        }
        List<Integer> all = new ArrayList<>();
        for (int top : greatest.descendingSet()) {
            for (int x : known) {
                boolean alone = Integer.highestOneBit(x) == top;
                for (int other : greatest) {
                    alone &= other == top || (x & other) == 0;
                }
                if (alone) {
                    all.add(x);
                }
            }
        }
        return all;
    }

    private boolean tells(int v, int token) {
        return s.known.get(v).contains(1 << token);
    }

    private boolean all(int v) {
        return s.known.get(v).size() == 1 << s.k;
    }

    private int full() {
        int many = 0;
        for (int v = 0; v < s.n; v++) {
            many += all(v) ? 1 : 0;
        }
        return many;
    }

    private int ranks() {
        int many = 0;
        for (int v = 0; v < s.n; v++) {
            many += rank(s.known.get(v));
        }
        return many;
    }

    // ---- rounds

    /** What each node sends by a manner; the draw changes, and what was sent by least is noted. */
    private List<List<Integer>> sendAll(int manner) {
        List<List<Integer>> out = new ArrayList<>();
        for (int v = 0; v < s.n; v++) {
            List<Integer> its = new ArrayList<>();
            if (manner == 0) {
                for (int t = 0; t < s.k && its.isEmpty(); t++) {
                    if (tells(v, t) && s.sent.get(v).add(t)) {
                        its.add(1 << t);
                    }
                }
            } else if (manner == 1) {
                if (tells(v, s.round % s.k)) {
                    its.add(1 << s.round % s.k);
                }
            } else if (manner == 2) {
                List<Integer> sums = itsSums(s.known.get(v));
                if (!sums.isEmpty()) {
                    String bits = new StringBuilder(Integer.toBinaryString(s.x())).reverse().toString();
                    int mix = 0;
                    for (int j = 0; j < sums.size() && j < bits.length(); j++) {
                        mix ^= bits.charAt(j) == '1' ? sums.get(j) : 0;
                    }
                    if (mix != 0) {
                        its.add(mix);
                    }
                }
            } else {
                its.addAll(itsSums(s.known.get(v)));
            }
            out.add(its);
        }
        return out;
    }

    private List<List<Integer>> wouldSend(int manner) {
        State was = s;
        s = was.copy();
        List<List<Integer>> out = sendAll(manner);
        s = was;
        return out;
    }

    private int growth(int v, boolean[] from, List<List<Integer>> out) {
        TreeSet<Integer> known = s.known.get(v);
        for (int u = 0; u < s.n; u++) {
            if (from[u]) {
                for (int sum : out.get(u)) {
                    known = with(known, sum);
                }
            }
        }
        return rank(known) - rank(s.known.get(v));
    }

    private void pass() {
        List<List<Integer>> out = sendAll(s.manner);
        boolean[][] links = s.links(s.round);
        List<TreeSet<Integer>> next = new ArrayList<>();
        for (int v = 0; v < s.n; v++) {
            TreeSet<Integer> known = s.known.get(v);
            for (int u = 0; u < s.n; u++) {
                if (links[v][u]) {
                    for (int sum : out.get(u)) {
                        known = with(known, sum);
                    }
                }
            }
            next.add(known);
        }
        s.known = next;
        s.round++;
    }

    private static boolean[][] pathOf(int n) {
        boolean[][] links = new boolean[n][n];
        for (int v = 1; v < n; v++) {
            links[v][v - 1] = links[v - 1][v] = true;
        }
        return links;
    }

    private static boolean joins(boolean[][] links) {
        ArrayDeque<Integer> open = new ArrayDeque<>(List.of(0));
        TreeSet<Integer> reached = new TreeSet<>(open);
        while (!open.isEmpty()) {
            int v = open.pop();
            for (int u = 0; u < links.length; u++) {
                if (links[v][u] && reached.add(u)) {
                    open.push(u);
                }
            }
        }
        return reached.size() == links.length;
    }

    private static List<int[]> pairs(int n) {
        List<int[]> all = new ArrayList<>();
        for (int a = 0; a < n; a++) {
            for (int b = a + 1; b < n; b++) {
                all.add(new int[] {a, b});
            }
        }
        return all;
    }

    private static boolean[][] some(List<int[]> pairs, int which, int n) {
        boolean[][] links = new boolean[n][n];
        for (int i = 0; i < pairs.size(); i++) {
            if ((which >> i & 1) == 1) {
                links[pairs.get(i)[0]][pairs.get(i)[1]] = true;
                links[pairs.get(i)[1]][pairs.get(i)[0]] = true;
            }
        }
        return links;
    }

    private static final Map<Integer, List<boolean[][]>> JOINING = new HashMap<>();

    private static List<boolean[][]> joining(int n) {
        return JOINING.computeIfAbsent(n, key -> {
            List<boolean[][]> all = new ArrayList<>();
            List<int[]> pairs = pairs(n);
            for (int which = 0; which < 1 << pairs.size(); which++) {
                boolean[][] links = some(pairs, which, n);
                if (joins(links)) {
                    all.add(links);
                }
            }
            return all;
        });
    }

    private int gainBy(boolean[][] links, List<List<Integer>> out, Map<String, Integer> known) {
        int all = 0;
        for (int v = 0; v < s.n; v++) {
            int at = v;
            all += known.computeIfAbsent(v + Arrays.toString(links[v]), key -> growth(at, links[at], out));
        }
        return all;
    }

    // ---- the face

    int put(int v, int sum) {
        if (v < 0 || v >= s.n || sum < 1 || sum >= 1 << s.k) {
            return -1;
        }
        if (s.known.get(v).contains(sum)) {
            return -2;
        }
        note();
        s.known.set(v, with(s.known.get(v), sum));
        return rank(s.known.get(v));
    }

    int node(int v, int what) {
        if (v < 0 || v >= s.n || what < 0 || what > 4) {
            return -1;
        }
        int set = 0;
        switch (what) {
            case 0:
                return rank(s.known.get(v));
            case 1:
                for (int t = 0; t < s.k; t++) {
                    set |= tells(v, t) ? 1 << t : 0;
                }
                return set;
            case 2:
                for (int t : s.sent.get(v)) {
                    set |= 1 << t;
                }
                return set;
            case 3:
                return linked(s.round, v);
            default:
                return growth(v, s.links(s.round)[v], wouldSend(s.manner));
        }
    }

    int sum(int v, int j) {
        if (v < 0 || v >= s.n || j < 0) {
            return -1;
        }
        List<Integer> its = itsSums(s.known.get(v));
        return j < its.size() ? its.get(j) : -4;
    }

    int knows(int v, int sum) {
        if (v < 0 || v >= s.n || sum < 0 || sum >= 1 << s.k) {
            return -1;
        }
        return s.known.get(v).contains(sum) ? 1 : 0;
    }

    int sends(int v) {
        if (v < 0 || v >= s.n) {
            return -1;
        }
        List<Integer> its = wouldSend(s.manner).get(v);
        return s.manner == 3 ? its.size() : its.isEmpty() ? -4 : its.get(0);
    }

    int linked(int r, int v) {
        if (r < 0 || v < 0 || v >= s.n) {
            return -1;
        }
        int set = 0;
        for (int u = 0; u < s.n; u++) {
            set |= s.links(r)[v][u] ? 1 << u : 0;
        }
        return set;
    }

    int count(int what) {
        int[] all = {s.n, s.k, s.manner, s.span, s.round, s.plan.size(), ranks(), full(), past.size()};
        return what < 0 || what >= all.length ? -1 : all[what];
    }

    int go(int m) {
        if (m < 1 || m > 20) {
            return -1;
        }
        if (full() == s.n) {
            return -2;
        }
        note();
        int gone = 0;
        while (gone < m && full() < s.n) {
            pass();
            gone++;
        }
        return gone;
    }

    int gain(int what) {
        List<List<Integer>> out = wouldSend(s.manner);
        Map<String, Integer> known = new HashMap<>();
        if (what == 0) {
            return gainBy(s.links(s.round), out, known);
        }
        if (what == 1) {
            int least = Integer.MAX_VALUE;
            for (boolean[][] links : joining(s.n)) {
                least = Math.min(least, gainBy(links, out, known));
            }
            return least;
        }
        List<int[]> pairs = pairs(s.n);
        return what == 2 ? gainBy(some(pairs, (1 << pairs.size()) - 1, s.n), out, known) : -1;
    }

    int foreseen() {
        State was = s;
        s = was.copy();
        int rounds = 0;
        while (rounds < 60 && full() < s.n) {
            pass();
            rounds++;
        }
        int answer = full() == s.n ? rounds : -4;
        s = was;
        return answer;
    }

    private int[] viewsBehind(int j) {
        int[] views = new int[s.n];
        Arrays.fill(views, 1);
        views[0] = 0;
        for (int i = 0; i < j; i++) {
            boolean[][] links = s.links(s.round + i);
            List<String> numbers = new ArrayList<>();
            int[] next = new int[s.n];
            for (int v = 0; v < s.n; v++) {
                List<Integer> seen = new ArrayList<>();
                for (int u = 0; u < s.n; u++) {
                    if (links[v][u]) {
                        seen.add(views[u]);
                    }
                }
                seen.sort(null);
                String all = views[v] + " sees " + seen;
                if (!numbers.contains(all)) {
                    numbers.add(all);
                }
                next[v] = numbers.indexOf(all);
            }
            views = next;
        }
        return views;
    }

    int views(int j) {
        return j < 0 || j > 9 ? -1 : (int) Arrays.stream(viewsBehind(j)).distinct().count();
    }

    int view(int j, int v) {
        return j < 0 || j > 9 || v < 0 || v >= s.n ? -1 : viewsBehind(j)[v];
    }

    long joined(int c, int what) {
        if (c < 0 || c > 10 || what < 0 || what > 1) {
            return -1;
        }
        List<int[]> there = new ArrayList<>();
        for (int[] pair : pairs(s.n)) {
            if (s.links(s.round)[pair[0]][pair[1]]) {
                there.add(pair);
            }
        }
        BigInteger above = BigInteger.ZERO;
        for (int which = 0; which < 1 << there.size(); which++) {
            if (joins(some(there, which, s.n))) {
                int left = Integer.bitCount(which);
                above = above.add(BigInteger.valueOf(c).pow(there.size() - left).multiply(BigInteger.valueOf(10 - c).pow(left)));
            }
        }
        BigInteger below = BigInteger.TEN.pow(there.size());
        BigInteger common = above.gcd(below);
        return (what == 0 ? above : below).divide(common).longValueExact();
    }

    int tell(int what, int v) {
        int[] least = {2, 1, 0, 1};
        int[] most = {6, 8, 3, 9};
        if (what < 0 || what > 3 || v < least[what] || v > most[what]) {
            return -1;
        }
        int was = count(what);
        if (was == v) {
            return -2;
        }
        note();
        if (what == 0) {
            s.n = v;
            s.plan = new ArrayList<>(List.<boolean[][]>of(pathOf(v)));
            s.lose();
        } else if (what == 1) {
            s.k = v;
            s.lose();
        } else if (what == 2) {
            s.manner = v;
        } else {
            s.span = v;
        }
        return was;
    }

    int type(int letter) {
        if (letter < 32 || letter > 126) {
            return -1;
        }
        if (tape.length() == 90) {
            return -3;
        }
        tape += (char) letter;
        return tape.length();
    }

    int read() {
        String text = tape;
        tape = "";
        try {
            List<boolean[][]> plan = new Text(text, s.n).plan();
            note();
            s.plan = plan;
            return plan.size();
        } catch (Fault fault) {
            return -20 - fault.place;
        }
    }

    /** The text as a list of words and signs, with their places. */
    private static final class Text {
        private final List<String> words = new ArrayList<>();
        private final List<Integer> places = new ArrayList<>();
        private final int n;
        private int at = 0;

        Text(String text, int n) {
            this.n = n;
            int i = 0;
            while (i < text.length()) {
                int start = i;
                while (i < text.length() && Character.toString(text.charAt(i)).matches("[a-z]")) {
                    i++;
                }
                if (i == start) {
                    i++;
                }
                if (text.charAt(start) != ' ') {
                    words.add(text.substring(start, i));
                    places.add(start);
                }
            }
            words.add("");
            places.add(text.length());
        }

        private String next() {
            return words.get(at);
        }

        private Fault fault() {
            return new Fault(places.get(at));
        }

        private void take(String sign) {
            if (!next().equals(sign)) {
                throw fault();
            }
            at++;
        }

        private int node(List<Integer> but) {
            String figure = next();
            if (!figure.matches("[0-9]") || Integer.parseInt(figure) >= n || but.contains(Integer.parseInt(figure))) {
                throw fault();
            }
            at++;
            return Integer.parseInt(figure);
        }

        List<boolean[][]> plan() {
            List<boolean[][]> all = new ArrayList<>();
            while (true) {
                if (all.size() == 8) {
                    throw fault();
                }
                all.add(net());
                if (next().isEmpty()) {
                    return all;
                }
                take(";");
            }
        }

        private boolean[][] net() {
            boolean[][] links = new boolean[n][n];
            switch (next()) {
                case "path":
                case "ring":
                    boolean ring = next().equals("ring");
                    at++;
                    List<Integer> row = new ArrayList<>();
                    while (row.size() < n) {
                        row.add(node(row));
                    }
                    for (int i = ring ? 0 : 1; i < n; i++) {
                        int before = row.get((i + n - 1) % n);
                        links[before][row.get(i)] = links[row.get(i)][before] = true;
                    }
                    return links;
                case "star":
                    at++;
                    int center = node(List.of());
                    for (int v = 0; v < n; v++) {
                        links[center][v] = links[v][center] = v != center;
                    }
                    return links;
                case "all":
                    at++;
                    for (int[] pair : pairs(n)) {
                        links[pair[0]][pair[1]] = links[pair[1]][pair[0]] = true;
                    }
                    return links;
                case "links":
                    at++;
                    return linksBetween(links);
                default:
                    throw fault();
            }
        }

        private boolean[][] linksBetween(boolean[][] links) {
            while (true) {
                int a = node(List.of());
                take("-");
                List<Integer> but = new ArrayList<>(List.of(a));
                for (int v = 0; v < n; v++) {
                    if (links[a][v]) {
                        but.add(v);
                    }
                }
                int b = node(but);
                links[a][b] = links[b][a] = true;
                if (!next().equals(",")) {
                    if (!joins(links)) {
                        throw fault();
                    }
                    return links;
                }
                at++;
            }
        }
    }

    int drift(int turns) {
        if (turns < 1 || turns > 40) {
            return -1;
        }
        for (int i = 0; i < turns; i++) {
            note();
            int x = s.x();
            if (x % 4 == 0) {
                pass();
            } else if (x % 4 == 3) {
                s.manner = x / 4 % 4;
            } else {
                int v = x / 4 % s.n;
                s.known.set(v, with(s.known.get(v), 1 << x / 64 % s.k));
            }
        }
        return ranks();
    }

    private void note() {
        past.addLast(s.copy());
        if (past.size() > 6) {
            past.removeFirst();
        }
    }

    int undo() {
        if (past.isEmpty()) {
            return -4;
        }
        s = past.removeLast();
        return past.size();
    }

    int seed(int v) {
        if (v < 0) {
            return -1;
        }
        int was = (int) s.draw;
        s.draw = v;
        return was;
    }

    int image() {
        keptState = s.copy();
        keptPast = copyOf(past);
        return 1;
    }

    int restore() {
        if (keptState == null) {
            return -4;
        }
        s = keptState.copy();
        past = copyOf(keptPast);
        return 1;
    }

    private static ArrayDeque<State> copyOf(ArrayDeque<State> states) {
        ArrayDeque<State> all = new ArrayDeque<>();
        for (State state : states) {
            all.add(state.copy());
        }
        return all;
    }

    // ---- sheets: rows of Java itself, and what Java itself throws

    private interface Deed {
        int done();
    }

    private static int asJavaDoes(Deed deed) {
        try {
            return deed.done();
        } catch (NullPointerException e) {
            return -11;
        } catch (ClassCastException e) {
            return -12;
        } catch (IndexOutOfBoundsException e) {
            return -13;
        } catch (NegativeArraySizeException e) {
            return -14;
        }
    }

    private static long get(Object row, int lane, int i) {
        switch (lane) {
            case 0:
                return ((byte[]) row)[i];
            case 1:
                return ((short[]) row)[i];
            case 2:
                return ((int[]) row)[i];
            default:
                return ((long[]) row)[i];
        }
    }

    private static void set(Object row, int lane, int i, long v) {
        switch (lane) {
            case 0:
                ((byte[]) row)[i] = (byte) v;
                break;
            case 1:
                ((short[]) row)[i] = (short) v;
                break;
            case 2:
                ((int[]) row)[i] = (int) v;
                break;
            default:
                ((long[]) row)[i] = v;
                break;
        }
    }

    private static int length(Object row, int lane) {
        return lane == 0 ? ((byte[]) row).length : lane == 1 ? ((short[]) row).length
            : lane == 2 ? ((int[]) row).length : ((long[]) row).length;
    }

    private static boolean noSheet(int sheet, int lane) {
        return sheet < 0 || sheet > 3 || lane < 0 || lane > 3;
    }

    private static void mustHold(Object row, int lane, int i, int n) {
        // the length comes first: no row, or one of another lane, is found ahead of a wrong place
        int there = length(row, lane);
        if (i < 0 || n < 0 || (long) i + n > there) {
            throw new IndexOutOfBoundsException();
        }
    }

    int could(int sheet, int lane, int i) {
        if (noSheet(sheet, lane)) {
            return -1;
        }
        return asJavaDoes(() -> {
            mustHold(sheets[sheet], lane, i, s.n);
            for (int v = 0; v < s.n; v++) {
                long item = get(sheets[sheet], lane, i + v);
                if (item != 9 && !(item >= 0 && item < s.k)) {
                    return -2;
                }
            }
            int set = 0;
            for (int manner = 0; manner < 2; manner++) {
                boolean so = true;
                List<List<Integer>> out = wouldSend(manner);
                for (int v = 0; v < s.n; v++) {
                    long item = get(sheets[sheet], lane, i + v);
                    so &= item == 9 ? out.get(v).isEmpty() : out.get(v).equals(List.of(1 << item));
                }
                set |= so ? 1 << manner : 0;
            }
            return set;
        });
    }

    int film(int v, int sheet, int lane, int i) {
        if (v < 0 || v >= s.n || noSheet(sheet, lane)) {
            return -1;
        }
        return asJavaDoes(() -> {
            List<Integer> its = itsSums(s.known.get(v));
            mustHold(sheets[sheet], lane, i, its.size());
            for (int j = 0; j < its.size(); j++) {
                set(sheets[sheet], lane, i + j, its.get(j));
            }
            return its.size();
        });
    }

    /** What each node would send by LEAST or TURNS, as a row tells it. */
    int[] rowOf(int manner) {
        List<List<Integer>> out = wouldSend(manner);
        int[] row = new int[s.n];
        for (int v = 0; v < s.n; v++) {
            row[v] = out.get(v).isEmpty() ? 9 : Integer.numberOfTrailingZeros(out.get(v).get(0));
        }
        return row;
    }

    int sheet(int sheet, int lane, int n) {
        if (noSheet(sheet, lane) || n > 24) {
            return -1;
        }
        return asJavaDoes(() -> {
            sheets[sheet] = lane == 0 ? new byte[n] : lane == 1 ? new short[n] : lane == 2 ? new int[n] : new long[n];
            return n;
        });
    }

    int drop(int sheet) {
        if (sheet < 0 || sheet > 3) {
            return -1;
        }
        return asJavaDoes(() -> {
            int had = java.lang.reflect.Array.getLength(sheets[sheet]);
            sheets[sheet] = null;
            return had;
        });
    }

    int item(int sheet, int lane, int i, long v) {
        if (noSheet(sheet, lane)) {
            return -1;
        }
        return asJavaDoes(() -> {
            mustHold(sheets[sheet], lane, i, 1);
            set(sheets[sheet], lane, i, v);
            return 1;
        });
    }

    int copy(int from, int i, int to, int j, int n) {
        if (from < 0 || from > 3 || to < 0 || to > 3) {
            return -1;
        }
        return asJavaDoes(() -> {
            if (sheets[from].getClass() != sheets[to].getClass()) {
                throw new ClassCastException();
            }
            System.arraycopy(sheets[from], i, sheets[to], j, n);
            return n;
        });
    }
}
