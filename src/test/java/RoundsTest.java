/** Promises 9 to 14: rounds. */
public final class RoundsTest {
    private static final int BAD = TokenRounds.BAD, NOT = TokenRounds.NOT, NONE = TokenRounds.NONE;

    public static void main(String[] args) {
        goByLeast();
        goAllAtOnce();
        goStopsAndRefuses();
        gains();
        gainsByTrees();
        gainsByRows();
        foreseenInMind();
        foreseenLate();
        viewsOfAPath();
        viewsByPlan();
        viewsRefuse();
        joinedByOdds();
        joinedRefuses();
        Check.end("RoundsTest");
    }

    private static void goByLeast() {
        TokenRounds x = new TokenRounds();
        x.put(0, 1);
        x.put(0, 2);
        Check.due("go(1)", x.go(1), 1);
        Check.due("1 tells", x.node(1, 1), 1);
        Check.due("2 tells", x.node(2, 1), 0);
        Check.due("go(2)", x.go(2), 2);
        Check.due("1 tells", x.node(1, 1), 3);
        Check.due("2 tells", x.node(2, 1), 3);
        Check.due("3 tells", x.node(3, 1), 1);
        Check.due("round", x.count(4), 3);
        Check.due("sent by 1", x.node(1, 2), 3);
    }

    // what came in a round goes on in the next one alone
    private static void goAllAtOnce() {
        TokenRounds x = new TokenRounds();
        x.tell(2, 3);
        x.put(0, 1);
        x.put(3, 6);
        x.go(1);
        Check.due("1 has", x.node(1, 0), 1);
        Check.due("2 has", x.sum(2, 0), 6);
        Check.due("2 has one", x.node(2, 0), 1);
        x.go(1);
        Check.due("1 has two", x.node(1, 0), 2);
        Check.due("0 has one", x.node(0, 0), 1);
    }

    private static void goStopsAndRefuses() {
        TokenRounds x = new TokenRounds();
        x.tell(2, 3);
        Check.due("go(0)", x.go(0), BAD);
        Check.due("go(21)", x.go(21), BAD);
        Check.due("go(-1)", x.go(-1), BAD);
        Check.due("refused rounds", x.count(4), 0);
        Check.due("go(20), nothing to send,", x.go(20), 20);
        x.put(0, 1);
        x.put(1, 2);
        x.put(2, 4);
        x.put(3, 8);
        Check.due("go(20)", x.go(20), 3);
        Check.due("round", x.count(4), 23);
        Check.due("all know all", x.count(7), 4);
        int undoable = x.count(8);
        Check.due("go(1)", x.go(1), NOT);
        Check.due("go(0)", x.go(0), BAD);
        Check.due("what refused rounds left to undo", x.count(8), undoable);
    }

    private static void gains() {
        TokenRounds x = new TokenRounds();
        x.tell(0, 3);
        x.tell(1, 3);
        x.tell(2, 3);
        x.put(0, 1);
        x.put(1, 2);
        x.put(2, 4);
        Check.due("path: gain(0)", x.gain(0), 4);
        Check.due("path: gain(1)", x.gain(1), 4);
        Check.due("path: gain(2)", x.gain(2), 6);
        Check.read(x, "all");
        Check.due("all: gain(0)", x.gain(0), 6);
        Check.due("all: gain(1)", x.gain(1), 4);
        Check.due("gain(3)", x.gain(3), BAD);
        Check.due("gain(-1)", x.gain(-1), BAD);
        Check.due("ranks as they were", x.count(6), 3);
        x.tell(2, 2);
        x.gain(0);
        x.gain(1);
        x.gain(2);
        Check.due("the draw as it was", x.seed(1), 1);
        x.tell(2, 0);
        x.gain(1);
        Check.due("nothing sent by a gain", x.node(0, 2), 0);
    }

    private static void gainsByTrees() {
        TokenRounds x = new TokenRounds();
        x.tell(2, 3);
        for (int t = 0; t < 4; t++) {
            x.put(2, 1 << t);
        }
        Check.due("one that knows all: gain(0)", x.gain(0), 8);
        Check.due("one that knows all: gain(1)", x.gain(1), 4);
        Check.due("one that knows all: gain(2)", x.gain(2), 12);
        x.tell(0, 2);
        x.put(1, 1);
        Check.due("two nodes: gain(0)", x.gain(0), 1);
        Check.due("two nodes: gain(1)", x.gain(1), 1);
        Check.due("two nodes: gain(2)", x.gain(2), 1);
        // the worst tree is a star here: the one that has links the three that have
        x.tell(0, 6);
        x.tell(1, 1);
        x.put(0, 1);
        x.put(2, 1);
        x.put(4, 1);
        Check.due("three of six: gain(0)", x.gain(0), 3);
        Check.due("three of six: gain(1)", x.gain(1), 1);
        Check.due("three of six: gain(2)", x.gain(2), 3);
    }

    // each in a row has a token of the one ahead and one of the one behind: just the path in this row brings the least
    private static void gainsByRows() {
        String[] orders = {"01", "10", "012", "120", "201", "0123", "2031", "3102", "01234", "24130", "40312", "31420",
            "012345", "543210", "350142", "204513", "415203", "132054", "523140", "041532"};
        for (String order : orders) {
            int n = order.length();
            TokenRounds x = new TokenRounds();
            x.tell(0, n);
            x.tell(1, n + 1);
            x.tell(2, 3);
            for (int i = 0; i < n; i++) {
                x.put(order.charAt(i) - '0', 1 << i);
                x.put(order.charAt(i) - '0', 1 << i + 1);
            }
            Check.due("row " + order + ": gain(1)", x.gain(1), 2 * n - 2);
            Check.due("row " + order + ": gain(2)", x.gain(2), n * (n - 1));
            Check.read(x, "path " + order);
            Check.due("row " + order + ": gain(0)", x.gain(0), 2 * n - 2);
        }
    }

    private static void foreseenInMind() {
        TokenRounds x = new TokenRounds();
        Check.due("nothing known", x.foreseen(), NONE);
        x.tell(2, 3);
        for (int v = 0; v < 4; v++) {
            x.put(v, 1 << v);
        }
        Check.due("path by all", x.foreseen(), 3);
        Check.due("asked again", x.foreseen(), 3);
        Check.due("round as it was", x.count(4), 0);
        x.tell(2, 2);
        int byDraws = x.foreseen();
        Check.due("the draw as it was", x.seed(1), 1);
        Check.due("gone as foreseen", x.go(20), byDraws);
        Check.due("all know all", x.foreseen(), 0);
        x.tell(0, 3);
        x.tell(2, 0);
        x.put(0, 15);
        Check.due("least that tells none", x.foreseen(), NONE);
    }

    private static void foreseenLate() {
        TokenRounds x = new TokenRounds();
        x.tell(0, 6);
        x.tell(1, 8);
        x.tell(2, 1);
        for (int t = 0; t < 8; t++) {
            x.put(0, 1 << t);
        }
        // token 7 is sent in rounds 7, 15, 23, 31, 39
        Check.due("turns", x.foreseen(), 40);
        x.tell(3, 9);
        Check.read(x, "path 012345; path 012345");
        Check.due("turns by a plan of the same", x.foreseen(), 40);
        Check.due("go(20)", x.go(20), 20);
        Check.due("turns from there", x.foreseen(), 20);
    }

    private static String views(TokenRounds x, int j) {
        StringBuilder all = new StringBuilder();
        for (int v = 0; v < x.count(0); v++) {
            all.append(x.view(j, v));
        }
        return all.append(':').append(x.views(j)).toString();
    }

    private static void viewsOfAPath() {
        TokenRounds x = new TokenRounds();
        x.tell(0, 6);
        Check.row("path: behind 0", views(x, 0), "011111:2");
        Check.row("path: behind 1", views(x, 1), "012223:4");
        Check.row("path: behind 2", views(x, 2), "012345:6");
        Check.row("path: behind 9", views(x, 9), "012345:6");
        Check.read(x, "ring 012345");
        Check.row("ring: behind 1", views(x, 1), "012221:3");
        Check.row("ring: behind 2", views(x, 2), "012321:4");
        Check.row("ring: behind 9", views(x, 9), "012321:4");
        Check.read(x, "all");
        Check.row("all: behind 9", views(x, 9), "011111:2");
        Check.read(x, "star 3");
        Check.row("star 3: behind 1", views(x, 1), "011211:3");
        Check.read(x, "path 120345");
        Check.row("path 120345: behind 1", views(x, 1), "012231:4");
    }

    // behind one round the present links count, behind two those of the next one, too
    private static void viewsByPlan() {
        TokenRounds x = new TokenRounds();
        Check.read(x, "star 0; path 1023");
        Check.row("star first: behind 1", views(x, 1), "0111:2");
        Check.row("star first: behind 2", views(x, 2), "0123:4");
        x.tell(3, 2);
        Check.row("star twice: behind 2", views(x, 2), "0111:2");
        Check.row("star twice: behind 3", views(x, 3), "0123:4");
        x.tell(3, 1);
        Check.read(x, "all; path 0123; star 1");
        Check.row("all, then a path: behind 2", views(x, 2), "0123:4");
        Check.read(x, "all; star 1; path 0123");
        Check.row("all, then a star: behind 2", views(x, 2), "0122:3");
        Check.row("all, star, path: behind 3", views(x, 3), "0123:4");
        Check.read(x, "star 0; path 1023");
        x.go(1);
        Check.row("path first: behind 1", views(x, 1), "0123:4");
    }

    private static void viewsRefuse() {
        TokenRounds x = new TokenRounds();
        Check.due("views(-1)", x.views(-1), BAD);
        Check.due("views(10)", x.views(10), BAD);
        Check.due("view(-1, 0)", x.view(-1, 0), BAD);
        Check.due("view(10, 0)", x.view(10, 0), BAD);
        Check.due("view(0, -1)", x.view(0, -1), BAD);
        Check.due("view(0, 4)", x.view(0, 4), BAD);
        Check.due("view(9, 3)", x.view(9, 3), 3);
    }

    private static void odds(TokenRounds x, String what, int c, long above, long below) {
        Check.due(what + ": joined(" + c + ", 0)", x.joined(c, 0), above);
        Check.due(what + ": joined(" + c + ", 1)", x.joined(c, 1), below);
    }

    private static void joinedByOdds() {
        TokenRounds x = new TokenRounds();
        odds(x, "path", 0, 1, 1);
        odds(x, "path", 1, 729, 1000);
        odds(x, "path", 2, 64, 125);
        odds(x, "path", 5, 1, 8);
        odds(x, "path", 9, 1, 1000);
        odds(x, "path", 10, 0, 1);
        Check.read(x, "ring 0123; all; star 2");
        odds(x, "ring", 5, 5, 16);
        // all four, or just one of them failed: 7^4 + 4 * 3 * 7^3
        odds(x, "ring", 3, 2401 + 4116, 10000);
        x.go(1);
        odds(x, "all of 4", 5, 19, 32);
        x.go(1);
        odds(x, "star", 2, 64, 125);
        x.tell(0, 6);
        Check.read(x, "all");
        odds(x, "all of 6", 5, 26704 / 16, 32768 / 16);
        odds(x, "all of 6", 0, 1, 1);
        odds(x, "all of 6", 10, 0, 1);
        x.tell(0, 2);
        odds(x, "two", 4, 3, 5);
    }

    private static void joinedRefuses() {
        TokenRounds x = new TokenRounds();
        Check.due("joined(-1, 0)", x.joined(-1, 0), BAD);
        Check.due("joined(11, 1)", x.joined(11, 1), BAD);
        Check.due("joined(5, 2)", x.joined(5, 2), BAD);
        Check.due("joined(5, -1)", x.joined(5, -1), BAD);
    }
}
