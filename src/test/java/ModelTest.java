import java.util.Random;

/** Runs of calls by chance, the same each time, answered by the class as by the model. */
public final class ModelTest {
    private static final int RUNS = 800, CALLS = 512;

    private final TokenRounds x = new TokenRounds();
    private final Model y = new Model();
    private final Random chance;
    private final int seed;
    private int calls = 0;

    private ModelTest(int seed) {
        this.seed = seed;
        chance = new Random(seed);
    }

    public static void main(String[] args) {
        for (int seed = 0; seed < RUNS; seed++) {
            new ModelTest(seed).run();
        }
        Check.end("ModelTest");
    }

    private void run() {
        while (calls < CALLS) {
            if (!call(calls)) {
                return;
            }
        }
    }

    /** Whether so many calls are left: later ones may answer what they like. */
    private boolean left(int more) {
        return calls + more <= CALLS;
    }

    private int below(int bound) {
        return chance.nextInt(bound);
    }

    /** Mostly 0 to most; now and then beyond. */
    private int near(int most) {
        int odd = below(60);
        if (odd == 0) {
            return -1;
        }
        if (odd == 1) {
            return most + 1;
        }
        if (odd == 2) {
            int[] far = {Integer.MIN_VALUE, Integer.MAX_VALUE, -77, 1 << 20, 512};
            return far[below(far.length)];
        }
        return below(most + 1);
    }

    private int node() {
        return near(y.count(0) - 1);
    }

    private int sum() {
        return near((1 << y.count(1)) - 1);
    }

    private boolean same(int at, String what, long got, long want) {
        calls++;
        if (got != want) {
            Check.due("run " + seed + ", call " + at + ": " + what, got, want);
        } else {
            Check.due("", 0, 0);
        }
        return got == want;
    }

    private boolean call(int at) {
        int which = below(44);
        if (which < 14) {
            return callOfNodes(at, which);
        }
        if (which < 22) {
            return callOfRounds(at, which - 14);
        }
        return which < 34 ? callOfDeeds(at, which - 22) : callOfSheets(at, which - 34);
    }

    private boolean callOfNodes(int at, int which) {
        int v = node();
        switch (which) {
            case 0: case 1: case 2: {
                int sum = below(2) == 0 ? 1 << below(8) : sum();
                return same(at, "put(" + v + ", " + sum + ")", x.put(v, sum), y.put(v, sum));
            }
            case 3: case 4: case 5: {
                int what = near(4);
                return same(at, "node(" + v + ", " + what + ")", x.node(v, what), y.node(v, what));
            }
            case 6: case 7: {
                int j = near(8);
                return same(at, "sum(" + v + ", " + j + ")", x.sum(v, j), y.sum(v, j));
            }
            case 8: {
                int sum = sum();
                return same(at, "knows(" + v + ", " + sum + ")", x.knows(v, sum), y.knows(v, sum));
            }
            case 9: case 10:
                return same(at, "sends(" + v + ")", x.sends(v), y.sends(v));
            case 11: {
                int r = near(40);
                return same(at, "linked(" + r + ", " + v + ")", x.linked(r, v), y.linked(r, v));
            }
            default: {
                int what = near(8);
                return same(at, "count(" + what + ")", x.count(what), y.count(what));
            }
        }
    }

    private boolean callOfRounds(int at, int which) {
        switch (which) {
            case 0: case 1: case 2: {
                int m = below(3) == 0 ? near(20) : 1;
                return same(at, "go(" + m + ")", x.go(m), y.go(m));
            }
            case 3: {
                // all nets of six nodes are many for the model
                int what = y.count(0) == 6 && below(6) != 0 ? 2 * below(2) : near(2);
                return same(at, "gain(" + what + ")", x.gain(what), y.gain(what));
            }
            case 4:
                return below(6) == 0 ? chain(at) : same(at, "foreseen()", x.foreseen(), y.foreseen());
            case 5: {
                int j = near(9);
                return same(at, "views(" + j + ")", x.views(j), y.views(j));
            }
            case 6: {
                int j = near(9);
                int v = node();
                return same(at, "view(" + j + ", " + v + ")", x.view(j, v), y.view(j, v));
            }
            default: {
                int c = near(10);
                int what = near(1);
                return same(at, "joined(" + c + ", " + what + ")", x.joined(c, what), y.joined(c, what));
            }
        }
    }

    private boolean callOfDeeds(int at, int which) {
        switch (which) {
            case 0: case 1: {
                int what = below(8) == 0 ? below(2) : below(10) == 0 ? near(3) : 2 + below(2);
                int v = near(new int[] {6, 8, 3, 9}[Math.floorMod(what, 4)]);
                return same(at, "tell(" + what + ", " + v + ")", x.tell(what, v), y.tell(what, v));
            }
            case 2: {
                int letter = below(4) == 0 ? near(126) : 32 + below(95);
                return same(at, "type(" + letter + ")", x.type(letter), y.type(letter));
            }
            case 3:
                return same(at, "read()", x.read(), y.read());
            case 4: case 5:
                return typed(at) && (!left(1) || same(at, "read()", x.read(), y.read()));
            case 6: {
                int n = below(3) == 0 ? near(40) : 1 + below(3);
                return same(at, "drift(" + n + ")", x.drift(n), y.drift(n));
            }
            case 7: case 8:
                return same(at, "undo()", x.undo(), y.undo());
            case 9: {
                int v = below(4) == 0 ? near(9) : chance.nextInt();
                return same(at, "seed(" + v + ")", x.seed(v), y.seed(v));
            }
            case 10:
                return below(3) > 0 || same(at, "image()", x.image(), y.image());
            default:
                return below(3) > 0 || same(at, "restore()", x.restore(), y.restore());
        }
    }

    private boolean typed(int at) {
        if (below(2) == 0 && !same(at, "read()", x.read(), y.read())) {
            return false;
        }
        String text = text();
        if (!left(text.length() + 1)) {
            return true;
        }
        for (int i = 0; i < text.length(); i++) {
            if (!same(at, "type of '" + text + "'", x.type(text.charAt(i)), y.type(text.charAt(i)))) {
                return false;
            }
        }
        return true;
    }

    private String text() {
        StringBuilder text = new StringBuilder();
        int nets = below(12) == 0 ? 7 + below(3) : 1 + below(4);
        boolean few = nets > 4 && below(2) == 0;
        for (int i = 0; i < nets; i++) {
            text.append(i == 0 ? "" : ";").append(few ? "all" : net());
        }
        if (below(3) == 0) {
            int at = below(text.length() + 1);
            String signs = " 0123456;,-aplrs";
            char sign = signs.charAt(below(signs.length()));
            int how = below(3);
            if (how == 0 || at == text.length()) {
                text.insert(at, sign);
            } else if (how == 1) {
                text.setCharAt(at, sign);
            } else {
                text.setLength(at);
            }
        }
        return text.toString();
    }

    private String net() {
        int n = y.count(0);
        String blank = below(4) == 0 ? " " : "";
        StringBuilder order = new StringBuilder();
        for (int v = 0; v < n; v++) {
            order.insert(below(order.length() + 1), v);
        }
        switch (below(5)) {
            case 0:
                return blank + "path " + String.join(blank, order.toString().split(""));
            case 1:
                return "ring" + blank + String.join(blank, order.toString().split("")) + blank;
            case 2:
                return "star" + blank + order.charAt(0) + blank;
            case 3:
                return blank + "all" + blank;
            default:
                break;
        }
        StringBuilder links = new StringBuilder("links" + blank);
        for (int i = 1; i < n; i++) {
            links.append(i == 1 ? "" : ",").append(order.charAt(below(i))).append(blank + "-").append(order.charAt(i));
        }
        if (below(3) == 0) {
            links.append(blank + ",").append(order.charAt(below(n))).append("-").append(order.charAt(below(n)));
        }
        return links.toString();
    }

    private boolean callOfSheets(int at, int which) {
        int sheet = near(3);
        int lane = below(5) == 0 ? near(3) : Math.floorMod(sheet, 4) / 2;
        int i = below(6) == 0 ? near(24) : below(4);
        switch (which) {
            case 0: case 1:
                return same(at, "could(" + sheet + ", " + lane + ", " + i + ")", x.could(sheet, lane, i), y.could(sheet, lane, i));
            case 2: case 3: {
                int v = node();
                return same(at, "film(" + v + ", " + sheet + ", " + lane + ", " + i + ")", x.film(v, sheet, lane, i),
                    y.film(v, sheet, lane, i));
            }
            case 4: {
                int n = near(24);
                return same(at, "sheet(" + sheet + ", " + lane + ", " + n + ")", x.sheet(sheet, lane, n), y.sheet(sheet, lane, n));
            }
            case 5:
                return below(4) > 0 || same(at, "drop(" + sheet + ")", x.drop(sheet), y.drop(sheet));
            case 6: {
                long v = below(5) == 0 ? chance.nextLong() : below(3) == 0 ? 9 : below(9);
                return same(at, "item(" + sheet + ", " + lane + ", " + i + ", " + v + ")", x.item(sheet, lane, i, v),
                    y.item(sheet, lane, i, v));
            }
            case 7:
                return row(at);
            default: {
                int to = near(3);
                int j = near(24);
                int n = below(2) == 0 ? near(24) : below(5);
                return same(at, "copy(" + sheet + ", " + i + ", " + to + ", " + j + ", " + n + ")",
                    x.copy(sheet, i, to, j, n), y.copy(sheet, i, to, j, n));
            }
        }
    }

    /** A row that could be: what each node would send by LEAST or TURNS now, now and then with another item. */
    private boolean row(int at) {
        int n = y.count(0);
        if (!left(n + 2)) {
            return true;
        }
        int[] sent = y.rowOf(below(2));
        if (below(3) == 0) {
            sent[below(n)] = below(12);
        }
        boolean same = same(at, "sheet(1, 2, " + (n + 1) + ")", x.sheet(1, 2, n + 1), y.sheet(1, 2, n + 1));
        for (int v = 0; v < n; v++) {
            same &= same(at, "item of a row", x.item(1, 2, v + 1, sent[v]), y.item(1, 2, v + 1, sent[v]));
        }
        return same && same(at, "could of a row", x.could(1, 2, 1), y.could(1, 2, 1));
    }

    /** By turns each of two nodes tells a token just when it got the one ahead: it takes as many rounds as it can. */
    private boolean chain(int at) {
        if (!left(14)) {
            return true;
        }
        int n = 2 + below(3);
        boolean same = same(at, "tell(1, 1)", x.tell(1, 1), y.tell(1, 1)) && same(at, "tell(1, 8)", x.tell(1, 8), y.tell(1, 8));
        x.tell(0, n);
        y.tell(0, n);
        x.tell(2, 1);
        y.tell(2, 1);
        calls += 2;
        int from = below(n);
        int to = (from + 1 + below(n - 1)) % n;
        same &= same(at, "put of a chain", x.put(from, 128), y.put(from, 128));
        for (int t = 6; t >= 0; t--) {
            int v = t % 2 == 0 ? to : from;
            same &= same(at, "put of a chain", x.put(v, 3 << t), y.put(v, 3 << t));
        }
        int gone = below(3) == 0 ? 20 : 1 + below(8);
        return same && same(at, "go(" + gone + ") of a chain", x.go(gone), y.go(gone))
            && same(at, "foreseen() of a chain", x.foreseen(), y.foreseen());
    }
}
