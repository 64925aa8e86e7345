/** Objects made alike by a run of calls: what they answer later shows whether a call has changed one of them. */
final class Twins {
    interface Run {
        void on(TokenRounds x);
    }

    interface Call {
        long on(TokenRounds x);
    }

    private interface Show {
        void on(TokenRounds x, StringBuilder out);
    }

    private static final String[] NAMES = {"what it answers", "what goes on from it", "what may be undone", "its image",
        "its tape", "sheet 0", "sheet 1", "sheet 2", "sheet 3"};
    private static final Show[] SHOWS = {Twins::showAnswers, Twins::showGoingOn, Twins::showUndone, Twins::showImage,
        Twins::showTape, (x, out) -> showSheet(x, 0, out), (x, out) -> showSheet(x, 1, out),
        (x, out) -> showSheet(x, 2, out), (x, out) -> showSheet(x, 3, out)};

    final String name;
    final int n;
    final int k;
    private final Run made;
    private final String[] shown = new String[SHOWS.length];

    /** Objects made by a run of calls, behind which they have n nodes and k tokens. */
    Twins(String name, int n, int k, Run made) {
        this.name = name;
        this.n = n;
        this.k = k;
        this.made = made;
        TokenRounds x = make();
        Check.due(name + ": n", x.count(0), n);
        Check.due(name + ": k", x.count(1), k);
        for (int i = 0; i < SHOWS.length; i++) {
            shown[i] = show(make(), i);
        }
    }

    TokenRounds make() {
        TokenRounds x = new TokenRounds();
        made.on(x);
        return x;
    }

    /** A call answers as told, and nothing that can be seen later is another thing by it. */
    void unchangedBy(String what, Call call, long due) {
        Check.due(name + ": " + what, call.on(make()), due);
        for (int i = 0; i < SHOWS.length; i++) {
            TokenRounds x = make();
            call.on(x);
            Check.row(name + ": behind " + what + ", " + NAMES[i], show(x, i), shown[i]);
        }
    }

    /** A call answers as told and leaves the tape empty; nothing else is another thing by it. */
    void emptiedBy(String what, Call call, long due) {
        Check.due(name + ": " + what, call.on(make()), due);
        for (int i = 0; i < SHOWS.length; i++) {
            TokenRounds x = make();
            call.on(x);
            if (NAMES[i].equals("its tape")) {
                Check.due(name + ": the first letter behind " + what, x.type('~'), 1);
                Check.due(name + ": the tape behind " + what, x.read(), -20);
            } else {
                Check.row(name + ": behind " + what + ", " + NAMES[i], show(x, i), shown[i]);
            }
        }
    }

    /** The one thing told by a name is another one by a call: that these tests would see it. */
    void changedBy(String what, String thing, Call call) {
        boolean other = false;
        for (int i = 0; i < SHOWS.length; i++) {
            TokenRounds x = make();
            call.on(x);
            other |= NAMES[i].equals(thing) && !show(x, i).equals(shown[i]);
        }
        Check.holds(name + ": " + what + " shows in " + thing, other);
    }

    private static String show(TokenRounds x, int i) {
        StringBuilder out = new StringBuilder();
        SHOWS[i].on(x, out);
        return out.toString();
    }

    private static void tell(StringBuilder out, String what, long... answers) {
        out.append(what);
        for (long answer : answers) {
            out.append(' ').append(answer);
        }
        out.append("; ");
    }

    private static void showAnswers(TokenRounds x, StringBuilder out) {
        showState(x, out);
        for (int v = 0; v < x.count(0); v++) {
            tell(out, "sends", x.sends(v), x.node(v, 4), x.view(1, v), x.view(9, v));
        }
        tell(out, "gain", x.gain(0), x.gain(1), x.gain(2));
        tell(out, "foreseen", x.foreseen(), x.views(1), x.views(9));
        tell(out, "joined", x.joined(3, 0), x.joined(3, 1));
    }

    private static void showState(TokenRounds x, StringBuilder out) {
        for (int what = 0; what < 9; what++) {
            tell(out, "count", x.count(what));
        }
        for (int v = 0; v < x.count(0); v++) {
            tell(out, "node", x.node(v, 0), x.node(v, 1), x.node(v, 2), x.node(v, 3));
            for (int j = 0; j < x.node(v, 0); j++) {
                tell(out, "sum", x.sum(v, j));
            }
        }
        int span = x.count(3);
        for (int i = 0; i < x.count(5); i++) {
            tell(out, "linked", x.linked(i * span, 0), x.linked(i * span, 1));
        }
    }

    private static void showGoingOn(TokenRounds x, StringBuilder out) {
        tell(out, "go", x.go(2), x.count(6), x.node(0, 2));
        tell(out, "drift", x.drift(7), x.count(2));
        showState(x, out);
        tell(out, "draw", x.seed(5));
    }

    private static void showUndone(TokenRounds x, StringBuilder out) {
        for (int i = 0; i < 7; i++) {
            tell(out, "undo", x.undo(), x.count(4), x.count(5), x.count(2) + 10 * x.count(3), x.seed(6));
            for (int v = 0; v < x.count(0); v++) {
                tell(out, "node", x.node(v, 0), x.node(v, 2), x.sum(v, 0), x.linked(0, v));
            }
        }
    }

    private static void showImage(TokenRounds x, StringBuilder out) {
        tell(out, "restore", x.restore());
        showState(x, out);
        tell(out, "draw", x.seed(5));
        tell(out, "undo", x.undo(), x.count(6), x.undo(), x.count(6), x.seed(7));
    }

    private static void showTape(TokenRounds x, StringBuilder out) {
        tell(out, "letters", x.type('2'), x.type('3'), x.type(' '));
        tell(out, "read", x.read(), x.count(5), x.linked(0, 0), x.linked(x.count(3), 0));
    }

    /** The lane, how many items, and of each pair by which number of tokens it could be sent, and by which manners. */
    private static void showSheet(TokenRounds x, int sheet, StringBuilder out) {
        int lane = 0;
        while (lane < 3 && x.item(sheet, lane, -1, 0) == TokenRounds.CAST) {
            lane++;
        }
        tell(out, "lane", lane, x.item(sheet, lane, -1, 0));
        int many = 0;
        while (many < 25 && x.copy(sheet, many, sheet, many, 0) == 0) {
            many++;
        }
        tell(out, "items", many - 1);
        x.tell(0, 2);
        for (int first = 0; first < many - 1; first += 12) {
            showPairs(x, sheet, lane, first, Math.min(12, many - 1 - first), out);
        }
    }

    /** Each item with a 9 behind it, by 1 to 8 tokens: so each token and 9 tell another row of answers. */
    private static void showPairs(TokenRounds x, int sheet, int lane, int first, int n, StringBuilder out) {
        int other = (sheet + 1) % 4;
        x.sheet(other, lane, 2 * n);
        for (int i = 0; i < n; i++) {
            x.copy(sheet, first + i, other, 2 * i, 1);
            x.item(other, lane, 2 * i + 1, 9);
        }
        for (int k = 1; k <= 8; k++) {
            x.tell(1, k);
            for (int i = 0; i < n; i++) {
                tell(out, "", x.could(other, lane, 2 * i));
            }
        }
    }
}
