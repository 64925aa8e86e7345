import java.util.ArrayList;
import java.util.List;

/** Promises 15 to 22 at their edges: what is lost and what stays, texts a letter off, what is undone, turns by draws. */
public final class DeedsEdgesTest {
    private static final int BAD = TokenRounds.BAD, NOT = TokenRounds.NOT, FULL = TokenRounds.FULL,
            NONE = TokenRounds.NONE;
    private static final int MAX = Integer.MAX_VALUE;

    private interface Deed {
        void on(TokenRounds x);
    }

    public static void main(String[] args) {
        lostByEachN();
        lostByEachK();
        staysBySpanAndManner();
        tapeToTheLast();
        textsALetterOff();
        faultsByNodes();
        netsToTheNinth();
        rowsOfAllOrders();
        turnsByDraws();
        turnsOfRounds();
        turnsAreUndoneEach();
        eachMayBeUndone();
        sevenDeeds();
        undoneAndDoneAgain();
        notToBeUndone();
        undoneToTheDraw();
        imagesOfAll();
        imagesAgain();
        Check.end("DeedsEdgesTest");
    }

    private static String links(TokenRounds x, int r) {
        StringBuilder all = new StringBuilder();
        for (int v = 0; v < x.count(0); v++) {
            all.append(v == 0 ? "" : " ").append(x.linked(r, v));
        }
        return all.toString();
    }

    // ---- n, k told

    private static TokenRounds busy(int n, int k) {
        TokenRounds x = EdgesTest.of(n, k, 0);
        Check.read(x, "all;star 1");
        x.tell(3, 2);
        for (int v = 0; v < n; v++) {
            x.put(v, 1 << v % k);
        }
        x.put(0, (1 << k) - 1);
        x.go(1);
        x.seed(4242);
        Check.due("a round", x.count(4), x.count(7) == n ? x.count(4) : 1);
        return x;
    }

    private static final String[] PATHS = {"2 1", "2 5 2", "2 5 10 4", "2 5 10 20 8", "2 5 10 20 40 16"};

    private static void lostByEachN() {
        for (int n = 2; n <= 6; n++) {
            for (int to = 2; to <= 6; to++) {
                TokenRounds x = busy(n, 8);
                String what = "n " + n + " to " + to + ": ";
                Check.due(what + "tell", x.tell(0, to), n == to ? NOT : n);
                Check.due(what + "n", x.count(0), to);
                if (n == to) {
                    Check.due(what + "the plan stays", x.count(5), 2);
                    Check.due(what + "the round stays", x.count(4), 1);
                    Check.holds(what + "ranks stay", x.count(6) > n);
                    Check.due(what + "sent stays", x.node(1, 2), 2);
                    continue;
                }
                Check.due(what + "k stays", x.count(1), 8);
                Check.due(what + "span stays", x.count(3), 2);
                Check.due(what + "round 0", x.count(4), 0);
                Check.due(what + "one set of links", x.count(5), 1);
                Check.row(what + "the path", links(x, 0), PATHS[to - 2]);
                Check.row(what + "the path later", links(x, 2), PATHS[to - 2]);
                Check.due(what + "ranks lost", x.count(6), 0);
                for (int v = 0; v < to; v++) {
                    Check.due(what + "sent lost", x.node(v, 2) + x.node(v, 0), 0);
                }
                Check.due(what + "the draw stays", x.seed(1), 4242);
                Check.due(what + "undone", x.undo(), 5);
                Check.due(what + "n again", x.count(0), n);
                Check.due(what + "sent again", x.node(1, 2), 2);
                Check.due(what + "the round again", x.count(4), 1);
                Check.due(what + "the plan again", x.count(5), 2);
            }
        }
    }

    private static void lostByEachK() {
        for (int k = 1; k <= 8; k++) {
            for (int to = 1; to <= 8; to++) {
                TokenRounds x = EdgesTest.of(3, k, 0);
                Check.read(x, "ring 012;star 2");
                x.tell(3, 2);
                x.put(1, 1);
                x.go(1);
                x.tell(2, 1);
                x.seed(4243);
                String what = "k " + k + " to " + to + ": ";
                Check.due(what + "tell", x.tell(1, to), k == to ? NOT : k);
                Check.due(what + "k", x.count(1), to);
                Check.due(what + "ranks", x.count(6), k == to ? 3 : 0);
                Check.due(what + "sent", x.node(1, 2), k == to ? 1 : 0);
                Check.due(what + "round", x.count(4), k == to ? 1 : 0);
                Check.due(what + "n stays", x.count(0), 3);
                Check.due(what + "the plan stays", x.count(5), 2);
                Check.row(what + "its links stay", links(x, 2), "4 4 3");
                Check.due(what + "manner stays", x.count(2), 1);
                Check.due(what + "span stays", x.count(3), 2);
                Check.due(what + "the draw stays", x.seed(1), 4243);
                Check.due(what + "the greatest token", x.put(0, 1 << to - 1), k == to && k == 1 ? NOT : k == to ? 2 : 1);
                Check.due(what + "one more", x.put(0, 1 << to), BAD);
            }
        }
    }

    private static void staysBySpanAndManner() {
        TokenRounds x = busy(4, 4);
        int ranks = x.count(6);
        x.tell(3, 9);
        x.tell(2, 3);
        Check.due("ranks stay", x.count(6), ranks);
        Check.due("the round stays", x.count(4), 1);
        Check.due("sent stays", x.node(1, 2), 2);
        Check.due("the plan stays", x.count(5), 2);
        Check.due("the draw stays", x.seed(1), 4242);
    }

    // ---- texts

    private static void tapeToTheLast() {
        TokenRounds x = new TokenRounds();
        for (int i = 1; i <= 90; i++) {
            Check.due("letter " + i, x.type(i % 2 == 0 ? 126 : 32), i);
        }
        for (int letter = 30; letter < 130; letter++) {
            Check.due("letter 91: " + letter, x.type(letter), letter < 32 || letter > 126 ? BAD : FULL);
        }
        Check.due("the first ~", x.read(), -21);
        Check.due("no letter", x.read(), -20);
        // 90 letters, each of them needed but for three blanks
        x = told(6);
        String eight = "path012345;ring012345;ring012345;ring012345;ring012345;path 012345;path 012345;path 512340";
        Check.due("letters", eight.length(), 90);
        Check.due("all of them read", Check.read(x, eight), 8);
        Check.due("the last links", x.linked(7, 0), 16);
        Check.type(x, "path 012345;" + eight);
        Check.due("cut at the 90th, just behind the eighth net", x.read(), 8);
        x = told(6);
        Check.type(x, " " + eight);
        Check.due("the last letter does not fit", x.read(), -110);
        Check.due("the last letter counts", Check.read(x, " ".repeat(78) + "path 5 43210"), 1);
        Check.due("its links", x.linked(0, 0), 2);
        Check.due("a fault at the last", Check.read(x, " ".repeat(78) + "path 5 4321;"), -109);
    }

    /** Texts with one letter put in, taken out, or another one: each place, each letter that means anything. */
    private static void textsALetterOff() {
        String[] texts = {"path 0123", "ring 3 0 1 2;all", "star 2 ;ring 0123", "links 0-1,1-2, 2 - 3", "all;path0213",
            "links 0-3,1-3,2-3;star0", " all ; all "};
        String letters = " 0123456789;,-abhiklnprstz`{:/~A";
        for (String text : texts) {
            Check.holds("'" + text + "' is read", Check.read(new TokenRounds(), text) > 0);
            for (int at = 0; at <= text.length(); at++) {
                for (int i = 0; i < letters.length(); i++) {
                    char sign = letters.charAt(i);
                    asTheModel(4, text.substring(0, at) + sign + text.substring(at));
                    if (at < text.length()) {
                        asTheModel(4, text.substring(0, at) + sign + text.substring(at + 1));
                    }
                }
                asTheModel(4, text.substring(0, at));
                asTheModel(4, text.substring(at));
                for (int n = 2; n <= 6; n++) {
                    asTheModel(n, text.substring(0, at));
                }
            }
        }
    }

    private static void asTheModel(int n, String text) {
        TokenRounds x = new TokenRounds();
        Model y = new Model();
        x.tell(0, n);
        y.tell(0, n);
        for (int i = 0; i < text.length(); i++) {
            x.type(text.charAt(i));
            y.type(text.charAt(i));
        }
        Check.due("'" + text + "' for " + n, x.read(), y.read());
        for (int r = 0; r < x.count(5); r++) {
            for (int v = 0; v < n; v++) {
                Check.due("'" + text + "': linked(" + r + ", " + v + ")", x.linked(r, v), y.linked(r, v));
            }
        }
        Check.due("'" + text + "': may be undone", x.count(8), y.count(8));
        Check.due("'" + text + "': the tape is empty", x.type(32), 1);
    }

    private static void fault(int n, String text, int place) {
        TokenRounds x = new TokenRounds();
        x.tell(0, n);
        Check.due("'" + text + "' for " + n, Check.read(x, text), -20 - place);
    }

    private static void good(int n, String text, int nets, String links) {
        TokenRounds x = new TokenRounds();
        x.tell(0, n);
        Check.due("'" + text + "' for " + n, Check.read(x, text), nets);
        Check.row("'" + text + "' for " + n + ": the last links", links(x, nets - 1), links);
    }

    /** The last figure that is a node and the first that is not; a row with all nodes, one less, one more. */
    private static void faultsByNodes() {
        String row = "012345";
        for (int n = 2; n <= 6; n++) {
            String all = row.substring(0, n);
            int last = n - 1;
            for (String name : new String[] {"path ", "ring "}) {
                Check.due(name + all, Check.read(told(n), name + all), 1);
                fault(n, name + all.substring(1), 5 + n - 1);
                fault(n, name + all.substring(1) + ";", 5 + n - 1);
                fault(n, name + all.substring(1) + "  ;", 5 + n + 1);
                fault(n, name + all.substring(1) + "a", 5 + n - 1);
                fault(n, name + all.substring(1) + n, 5 + n - 1);
                fault(n, name + all.substring(1) + last, 5 + n - 1);
                fault(n, name + all.substring(1) + 9, 5 + n - 1);
                fault(n, name + all + 0, 5 + n);
                fault(n, name + all + " " + n, 6 + n);
                fault(n, name + all + "; ", 7 + n);
                fault(n, name + n, 5);
                fault(n, name, 5);
            }
            good(n, "star " + last, 1, star(n, last));
            good(n, "star 0", 1, star(n, 0));
            fault(n, "star " + n, 5);
            fault(n, "star 9", 5);
            fault(n, "star " + last + last, 6);
            fault(n, "star " + last + " 0", 7);
            fault(n, "links " + last + "-" + n, 8);
            fault(n, "links " + n + "-0", 6);
            fault(n, "links " + last + "-" + last, 8);
            fault(n, "links " + last + "-0,0-" + last, 12);
            fault(n, "links " + last + "-0," + last + "-0", 12);
            if (n > 2) {
                fault(n, "links " + last + "-0", 9);
                fault(n, "links " + last + "-0;all", 9);
                fault(n, "links " + last + "-0 ;all", 10);
            } else {
                good(n, "links 1-0", 1, "2 1");
            }
        }
        good(2, "ring 10", 1, "2 1");
        good(2, "path 10;ring 01", 2, "2 1");
        good(3, "ring 201", 1, "6 5 3");
    }

    private static TokenRounds told(int n) {
        TokenRounds x = new TokenRounds();
        x.tell(0, n);
        return x;
    }

    private static String star(int n, int center) {
        List<String> all = new ArrayList<>();
        for (int v = 0; v < n; v++) {
            all.add("" + (v == center ? (1 << n) - 1 - (1 << v) : 1 << center));
        }
        return String.join(" ", all);
    }

    private static void netsToTheNinth() {
        for (int nets = 1; nets <= 10; nets++) {
            String text = "all" + ";all".repeat(nets - 1);
            if (nets <= 8) {
                good(3, text, nets, "6 5 3");
                fault(3, text + ";", 4 * nets);
                fault(3, text + ";x", 4 * nets);
                fault(3, text + ";0", 4 * nets);
            } else {
                fault(3, text, 32);
            }
        }
        String eight = "all" + ";all".repeat(7);
        fault(3, eight + ";x", 32);
        fault(3, eight + ";   path 012", 35);
        fault(3, eight + " ; ", 34);
        fault(3, eight + ",", 31);
        fault(3, eight + ";;", 32);
        TokenRounds x = told(3);
        Check.read(x, "star 2");
        Check.due("nine", Check.read(x, eight + ";all"), -52);
        Check.due("the plan stays", x.count(5) * 10 + x.linked(0, 0), 14);
        Check.due("the ninth left nothing to undo", x.count(8), 2);
    }

    private static void rowsOfAllOrders() {
        for (int code = 0; code < 256; code++) {
            String row = "" + code % 4 + code / 4 % 4 + code / 16 % 4 + code / 64;
            int again = 4;
            for (int i = 3; i > 0; i--) {
                again = row.indexOf(row.charAt(i)) < i ? i : again;
            }
            TokenRounds x = new TokenRounds();
            Check.due("path " + row, Check.read(x, "path " + row), again == 4 ? 1 : -25 - again);
            for (int i = 0; i < 4 && again == 4; i++) {
                int due = (i > 0 ? 1 << row.charAt(i - 1) - '0' : 0) + (i < 3 ? 1 << row.charAt(i + 1) - '0' : 0);
                Check.due("path " + row + ": links", x.linked(0, row.charAt(i) - '0'), due);
            }
            TokenRounds y = new TokenRounds();
            Check.due("ring " + row, Check.read(y, "ring" + row), again == 4 ? 1 : -24 - again);
            for (int i = 0; i < 4 && again == 4; i++) {
                int due = (1 << row.charAt((i + 3) % 4) - '0') + (1 << row.charAt((i + 1) % 4) - '0');
                Check.due("ring " + row + ": links", y.linked(0, row.charAt(i) - '0'), due);
            }
        }
    }

    // ---- drifts

    private static void turnsByDraws() {
        int[] kinds = new int[4];
        for (int i = 0; i < 400; i++) {
            int n = 2 + i % 5;
            int k = 1 + i / 5 % 8;
            int seed = i < 3 ? i : i < 6 ? MAX - i + 3 : EdgesTest.changed(i * 7919);
            TokenRounds x = EdgesTest.of(n, k, 1);
            x.seed(seed);
            int draw = EdgesTest.changed(seed);
            int drawn = draw / 65536;
            String what = "n " + n + ", k " + k + ", x " + drawn + ": ";
            int kind = drawn % 4;
            kinds[kind]++;
            Check.due(what + "ranks", x.drift(1), kind == 1 || kind == 2 ? 1 : 0);
            Check.due(what + "round", x.count(4), kind == 0 ? 1 : 0);
            Check.due(what + "manner", x.count(2), kind == 3 ? drawn / 4 % 4 : 1);
            for (int v = 0; v < n; v++) {
                boolean gets = (kind == 1 || kind == 2) && v == drawn / 4 % n;
                Check.due(what + "node " + v, x.node(v, 1), gets ? 1 << drawn / 64 % k : 0);
            }
            Check.due(what + "the draw", x.seed(0), draw);
        }
        for (int kind = 0; kind < 4; kind++) {
            Check.holds("turns of each kind", kinds[kind] > 50);
        }
    }

    /** A seed behind which x is of a kind. */
    private static int seedOf(int kind, int from) {
        for (int seed = from; seed < from + 1000; seed++) {
            if (EdgesTest.changed(seed) / 65536 % 4 == kind) {
                return seed;
            }
        }
        return 0;
    }

    /** A ROUND by SUM changes THE DRAW further; one is gone if all nodes know all, too. */
    private static void turnsOfRounds() {
        for (int i = 0; i < 10; i++) {
            TokenRounds x = EdgesTest.of(3, 2, 2);
            x.put(0, 1);
            x.put(2, 2);
            int seed = seedOf(0, 1000 * i);
            x.seed(seed);
            x.drift(1);
            int draw = EdgesTest.changed(seed);
            int first = EdgesTest.changed(draw);
            int second = EdgesTest.changed(first);
            int got = first / 65536 % 2 + second / 65536 % 2 * 2;
            Check.due("the round's own draws", x.node(1, 1), got);
            Check.due("the draw behind it", x.seed(0), second);
        }
        TokenRounds x = EdgesTest.of(2, 1, 0);
        x.put(0, 1);
        x.put(1, 1);
        x.seed(seedOf(0, 5));
        Check.due("a drift when all know all", x.drift(1), 2);
        Check.due("its round", x.count(4), 1);
        Check.due("what they sent", x.node(0, 2) + x.node(1, 2), 2);
        Check.due("no round by go", x.go(1), NOT);
    }

    private static void turnsAreUndoneEach() {
        for (int turns = 1; turns <= 40; turns++) {
            TokenRounds x = new TokenRounds();
            TokenRounds y = new TokenRounds();
            int together = x.drift(turns);
            int each = 0;
            for (int i = 0; i < turns; i++) {
                each = y.drift(1);
            }
            Check.due(turns + " turns", together, each);
            Check.due(turns + " turns: may be undone", x.count(8), Math.min(6, turns));
            for (int i = Math.min(6, turns) - 1; i >= 0; i--) {
                Check.due(turns + " turns, undone", x.undo(), i);
                Check.due(turns + " turns, each undone", y.undo(), i);
                Check.due(turns + " turns: ranks", x.count(6), y.count(6));
            }
            TokenRounds z = new TokenRounds();
            if (turns > 6) {
                z.drift(turns - 6);
            }
            Check.due(turns + " turns, six undone: ranks", x.count(6), z.count(6));
            Check.due(turns + " turns, six undone: round", x.count(4), z.count(4));
            Check.due(turns + " turns, six undone: manner", x.count(2), z.count(2));
            Check.due(turns + " turns, six undone: the draw", x.seed(0), z.seed(0));
            Check.due(turns + " turns, no more", x.undo(), NONE);
        }
        // a turn that puts what is known, or tells the manner that is, may be undone all the same
        TokenRounds x = EdgesTest.of(2, 1, 0);
        x.put(0, 1);
        x.put(1, 1);
        int known = x.count(8);
        x.seed(seedOf(1, 3));
        x.drift(1);
        Check.due("a token known", x.count(8) * 10 + x.count(6), (known + 1) * 10 + 2);
        x.undo();
        Check.due("undone", x.seed(9), seedOf(1, 3));
    }

    // ---- undone

    private static final Deed[] DEEDS = {
        x -> x.put(0, 4), x -> x.go(2), x -> x.tell(0, 5), x -> x.tell(1, 3), x -> x.tell(2, 2), x -> x.tell(3, 4),
        x -> Check.read(x, "star 3;all"), x -> x.drift(1)};
    private static final String[] NAMES = {"a sum put", "rounds gone", "n told", "k told", "the manner told",
        "the span told", "a text", "a turn"};

    private static TokenRounds ahead() {
        TokenRounds x = new TokenRounds();
        x.put(0, 3);
        x.put(1, 1);
        x.go(1);
        x.seed(2);
        return x;
    }

    private static String state(TokenRounds x) {
        StringBuilder all = new StringBuilder();
        for (int what = 0; what < 8; what++) {
            all.append(x.count(what)).append(' ');
        }
        for (int v = 0; v < x.count(0); v++) {
            all.append(x.node(v, 1)).append(' ').append(x.node(v, 2)).append(' ').append(x.sum(v, 0)).append(' ');
        }
        return all.append(links(x, 0)).append(' ').append(links(x, 1)).toString();
    }

    private static void eachMayBeUndone() {
        String due = state(ahead());
        for (int i = 0; i < DEEDS.length; i++) {
            TokenRounds x = ahead();
            DEEDS[i].on(x);
            Check.due(NAMES[i] + " may be undone", x.count(8), 4);
            Check.holds(NAMES[i] + " is done", !state(x).equals(due));
            x.seed(99);
            Check.due(NAMES[i] + " undone", x.undo(), 3);
            Check.row(NAMES[i] + " undone: all is as it was", state(x), due);
            Check.due(NAMES[i] + " undone: the draw", x.seed(2), 2);
            for (int j = 0; j < DEEDS.length; j++) {
                TokenRounds y = ahead();
                DEEDS[i].on(y);
                String between = state(y);
                DEEDS[j].on(y);
                if (y.count(8) == 5) {
                    y.undo();
                    Check.row(NAMES[j] + " behind " + NAMES[i] + " undone", state(y), between);
                }
                y.undo();
                Check.row(NAMES[i] + " ahead of " + NAMES[j] + " undone", state(y), due);
            }
        }
    }

    /** Of seven deeds six are undone; what was ahead of the second is all that comes back. */
    private static void sevenDeeds() {
        for (int turn = 0; turn < 8; turn++) {
            TokenRounds x = new TokenRounds();
            List<String> states = new ArrayList<>();
            for (int i = 0; i < 7; i++) {
                TokenRounds y = new TokenRounds();
                for (int j = 0; j < i; j++) {
                    DEEDS[(j + turn) % 8].on(y);
                }
                states.add(state(y));
                Check.due("known ahead of deed " + i, x.count(8), i);
                DEEDS[(i + turn) % 8].on(x);
                Check.due("known behind deed " + i, x.count(8), Math.min(6, i + 1));
            }
            for (int i = 6; i > 0; i--) {
                Check.due("from " + turn + ": undo of deed " + i, x.undo(), i - 1);
                Check.row("from " + turn + ": ahead of deed " + i, state(x), states.get(i));
            }
            Check.due("from " + turn + ": the oldest is lost", x.undo(), NONE);
            Check.row("from " + turn + ": all stays", state(x), states.get(1));
        }
    }

    private static void undoneAndDoneAgain() {
        TokenRounds x = new TokenRounds();
        for (int i = 0; i < 15; i++) {
            for (int span = 2; span <= 9; span++) {
                x.tell(3, span);
            }
            Check.due("six known", x.count(8), 6);
            x.undo();
            x.undo();
            Check.due("span", x.count(3), 7);
            x.tell(2, 1);
            x.tell(2, 0);
            x.tell(2, 3);
            Check.due("six known again", x.count(8), 6);
            for (int left = 5; left >= 0; left--) {
                Check.due("undone", x.undo(), left);
            }
            Check.due("no more", x.undo(), NONE);
            Check.due("span: the oldest was lost", x.count(3), 4);
            Check.due("manner", x.count(2), 0);
            x.tell(3, 1);
            x.undo();
            x.tell(3, 1);
        }
    }

    /** SHEETS, THE TAPE, IMAGES, THE DRAW told, a restore, an undo, questions and faults are no deeds. */
    private static void notToBeUndone() {
        TokenRounds x = new TokenRounds();
        x.put(0, 1);
        x.seed(5);
        x.type('q');
        x.read();
        x.sheet(0, 0, 9);
        x.item(0, 0, 0, 1);
        x.film(0, 0, 0, 1);
        x.copy(0, 0, 0, 1, 2);
        x.image();
        x.restore();
        x.drop(0);
        x.foreseen();
        x.put(0, 1);
        x.go(0);
        x.tell(0, 4);
        Check.due("one deed", x.count(8), 1);
        Check.due("undone", x.undo(), 0);
        Check.due("no more", x.undo(), NONE);
        Check.due("known then", x.count(8), 0);
    }

    /** Whatever was told since: THE DRAW too is as ahead of it; SHEETS, THE TAPE, IMAGES are not. */
    private static void undoneToTheDraw() {
        TokenRounds x = new TokenRounds();
        x.seed(100);
        x.tell(2, 3);
        x.seed(200);
        x.tell(3, 3);
        x.seed(300);
        x.sheet(1, 3, 4);
        x.item(1, 3, 2, 9);
        Check.type(x, "star");
        x.undo();
        Check.due("the draw", x.seed(0), 200);
        x.undo();
        Check.due("the draw", x.seed(0), 100);
        Check.due("the sheet", x.drop(1), 4);
        Check.due("the tape", Check.read(x, "1"), 1);
        TokenRounds y = new TokenRounds();
        y.tell(3, 5);
        y.image();
        y.tell(3, 6);
        y.undo();
        y.undo();
        Check.due("the image", y.restore(), 1);
        Check.due("its span", y.count(3), 5);
        Check.due("what may be undone by it", y.count(8), 1);
        // sums by draws: the rounds are gone once more the same way
        TokenRounds z = EdgesTest.of(4, 8, 2);
        z.put(0, 255);
        z.put(1, 7);
        z.go(6);
        String gone = state(z);
        z.undo();
        z.go(6);
        Check.row("the same rounds", state(z), gone);
    }

    // ---- images

    private static void imagesOfAll() {
        for (int i = 0; i < DEEDS.length; i++) {
            TokenRounds x = ahead();
            x.image();
            String due = state(x);
            for (int j = 0; j <= i; j++) {
                DEEDS[j].on(x);
            }
            x.seed(77);
            x.sheet(2, 1, 6);
            Check.type(x, "al");
            for (int again = 0; again < 2; again++) {
                Check.due("restore behind " + NAMES[i], x.restore(), 1);
                Check.row("restored behind " + NAMES[i], state(x), due);
                Check.due("restored: the draw", x.seed(1), 2);
                Check.due("restored: may be undone", x.count(8), 3);
                Check.due("restored: undone", x.undo() * 100 + x.undo() * 10 + x.undo(), 210);
                Check.due("restored: no more undone", x.undo(), NONE);
                Check.due("restored: all undone", x.count(6) + x.count(4), 0);
            }
            Check.due("the sheet stays", x.drop(2), 6);
            Check.due("the tape stays", Check.read(x, "l"), 1);
        }
    }

    private static void imagesAgain() {
        TokenRounds x = new TokenRounds();
        Check.due("none", x.restore(), NONE);
        Check.due("an image of a new one", x.image(), 1);
        x.drift(40);
        Check.due("restored", x.restore(), 1);
        Check.due("nothing may be undone", x.undo(), NONE);
        Check.row("as new", state(x), state(new TokenRounds()));
        Check.due("the first draw", x.seed(3), 1);
        x.drift(10);
        String later = state(x);
        x.image();
        x.drift(10);
        x.restore();
        Check.row("the later one", state(x), later);
        Check.due("six may be undone", x.count(8), 6);
        for (int left = 5; left >= 0; left--) {
            x.undo();
        }
        TokenRounds y = new TokenRounds();
        y.seed(3);
        y.drift(4);
        Check.row("six turns undone", state(x), state(y));
        x.drift(6);
        Check.row("the same six turns", state(x), later);
    }
}
