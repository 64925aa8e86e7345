import java.util.List;

/** What is refused changes nothing, but as told; no more does a question. By promise, in states of many kinds. */
public final class RefusedTest {
    private static final int BAD = TokenRounds.BAD, NOT = TokenRounds.NOT, FULL = TokenRounds.FULL,
            NONE = TokenRounds.NONE, NULL = TokenRounds.NULL, CAST = TokenRounds.CAST, INDEX = TokenRounds.INDEX,
            SIZE = TokenRounds.SIZE;
    private static final int MIN = Integer.MIN_VALUE, MAX = Integer.MAX_VALUE;

    private static final Twins NEW = new Twins("new", 4, 4, x -> { });
    private static final Twins MIDST = new Twins("midst", 4, 4, RefusedTest::midst);
    private static final Twins SMALL = new Twins("small", 2, 1, RefusedTest::small);
    private static final Twins LARGE = new Twins("large", 6, 8, RefusedTest::large);
    private static final Twins KNOWN = new Twins("all known", 3, 2, RefusedTest::known);
    private static final Twins UNDONE = new Twins("all undone", 4, 4, RefusedTest::undone);
    private static final List<Twins> ALL = List.of(NEW, MIDST, SMALL, LARGE, KNOWN, UNDONE);

    public static void main(String[] args) {
        changesShow();
        badNodes();
        badNumbersOfNodes();
        putOfWhatIsKnown();
        sumsThatAreNot();
        badNumbersOfRounds();
        roundsOfAllKnown();
        badNumbersOfDeeds();
        toldAsItIs();
        lettersTooMany();
        faultsEmptyTheTapeAlone();
        nothingToUndoOrRestore();
        badSheetsAndLanes();
        sheetsOfNothing();
        sheetsOfOtherLanes();
        itemsBeyond();
        copiesBeyond();
        rowsThatAreNone();
        questions();
        Check.end("RefusedTest");
    }

    // ---- the states

    private static void fill(TokenRounds x, int sheet, int lane, int... items) {
        x.sheet(sheet, lane, items.length);
        for (int i = 0; i < items.length; i++) {
            x.item(sheet, lane, i, items[i]);
        }
    }

    private static void midst(TokenRounds x) {
        Check.read(x, "ring 0123;star 2;all");
        x.tell(3, 2);
        x.put(0, 3);
        x.put(1, 4);
        x.put(1, 2);
        x.go(1);
        x.seed(2);
        x.image();
        x.put(3, 12);
        x.put(2, 9);
        x.seed(77);
        x.tell(2, 2);
        x.go(1);
        x.seed(4711);
        fill(x, 0, 0, 9, 1, 9, 3, 0);
        fill(x, 1, 1, 0, 9, 2, 7, 9, 9, 4, 9);
        fill(x, 3, 3, 2);
        Check.type(x, "star 2;ring 01");
    }

    private static void small(TokenRounds x) {
        x.tell(0, 2);
        x.tell(1, 1);
        x.put(0, 1);
        x.sheet(2, 2, 0);
        Check.type(x, " all");
    }

    private static void large(TokenRounds x) {
        x.tell(0, 6);
        x.tell(1, 8);
        Check.read(x, "all;star 1;path 012345;ring 012345;star 0;all;star 5;path 531420");
        x.tell(3, 9);
        x.image();
        x.put(0, 255);
        x.put(5, 128);
        x.put(4, 96);
        x.put(4, 3);
        x.put(2, 64);
        x.seed(MAX);
        x.tell(2, 2);
        x.go(2);
        fill(x, 0, 0, 9, 1, 9, 7, 0, 9, 9, 9, 9, 9, 9, 8, 9, 9, 9, 9, 9, 9, 9, 9, 9, 9, 9, 5);
        fill(x, 3, 3, 1, 9, 3, 9, 5, 9);
        Check.type(x, "star 3;" + " ".repeat(76) + "path 01");
    }

    private static void known(TokenRounds x) {
        x.tell(0, 3);
        x.tell(1, 2);
        x.tell(2, 3);
        x.put(1, 1);
        x.put(0, 2);
        x.go(1);
        x.put(2, 2);
        x.go(20);
        fill(x, 0, 1, 9, 0, 1);
        fill(x, 1, 1, 1, 1, 1);
        Check.type(x, "path 01");
    }

    private static void undone(TokenRounds x) {
        x.seed(9);
        x.tell(2, 1);
        x.put(2, 5);
        x.image();
        x.undo();
        x.undo();
        x.seed(10);
        fill(x, 2, 2, 9, 9, 9, 9);
    }

    /** What these tests look at would tell of each change. */
    private static void changesShow() {
        MIDST.changedBy("put(0, 8)", "what it answers", x -> x.put(0, 8));
        MIDST.changedBy("put(0, 8)", "what may be undone", x -> x.put(0, 8));
        MIDST.changedBy("seed(4710)", "what goes on from it", x -> x.seed(4710));
        MIDST.changedBy("drift(1)", "what goes on from it", x -> x.drift(1));
        MIDST.changedBy("undo()", "what may be undone", TokenRounds::undo);
        MIDST.changedBy("image()", "its image", TokenRounds::image);
        MIDST.changedBy("type(' ')", "its tape", x -> x.type(' '));
        MIDST.changedBy("read()", "its tape", TokenRounds::read);
        LARGE.changedBy("read()", "its tape", TokenRounds::read);
        MIDST.changedBy("item 0 of 0", "sheet 0", x -> x.item(0, 0, 0, 8));
        MIDST.changedBy("item 4 of 0", "sheet 0", x -> x.item(0, 0, 4, 9));
        MIDST.changedBy("item 3 of 1", "sheet 1", x -> x.item(1, 1, 3, 6));
        MIDST.changedBy("a longer sheet 3", "sheet 3", x -> x.sheet(3, 3, 2));
        MIDST.changedBy("a sheet 2", "sheet 2", x -> x.sheet(2, 0, 0));
        LARGE.changedBy("item 23 of 0", "sheet 0", x -> x.item(0, 0, 23, 4));
        SMALL.changedBy("another lane", "sheet 2", x -> x.sheet(2, 1, 0));
        SMALL.changedBy("no sheet", "sheet 2", x -> x.drop(2));
    }

    // ---- 1 nodes, plans

    private static void badNodes() {
        for (Twins s : ALL) {
            for (int v : new int[] {-1, s.n, s.n + 1, MIN, MAX}) {
                s.unchangedBy("put(" + v + ", 1)", x -> x.put(v, 1), BAD);
                s.unchangedBy("node(" + v + ", 4)", x -> x.node(v, 4), BAD);
                s.unchangedBy("sum(" + v + ", 0)", x -> x.sum(v, 0), BAD);
                s.unchangedBy("knows(" + v + ", 0)", x -> x.knows(v, 0), BAD);
                s.unchangedBy("sends(" + v + ")", x -> x.sends(v), BAD);
                s.unchangedBy("linked(0, " + v + ")", x -> x.linked(0, v), BAD);
                s.unchangedBy("view(1, " + v + ")", x -> x.view(1, v), BAD);
                s.unchangedBy("film(" + v + ", 0, 0, 0)", x -> x.film(v, 0, 0, 0), BAD);
            }
        }
    }

    private static void badNumbersOfNodes() {
        for (Twins s : ALL) {
            for (int sum : new int[] {-1, 1 << s.k, (1 << s.k) + 1, MIN, MAX}) {
                s.unchangedBy("put(0, " + sum + ")", x -> x.put(0, sum), BAD);
                s.unchangedBy("knows(0, " + sum + ")", x -> x.knows(0, sum), BAD);
            }
            s.unchangedBy("put(0, 0)", x -> x.put(0, 0), BAD);
            for (int what : new int[] {-1, 5, 9, MIN, MAX}) {
                s.unchangedBy("node(0, " + what + ")", x -> x.node(0, what), BAD);
            }
            for (int below : new int[] {-1, MIN}) {
                s.unchangedBy("sum(0, " + below + ")", x -> x.sum(0, below), BAD);
                s.unchangedBy("linked(" + below + ", 0)", x -> x.linked(below, 0), BAD);
            }
            for (int what : new int[] {-1, 9, MIN, MAX}) {
                s.unchangedBy("count(" + what + ")", x -> x.count(what), BAD);
            }
        }
    }

    private static void putOfWhatIsKnown() {
        for (int sum : new int[] {1, 2, 3}) {
            KNOWN.unchangedBy("put(2, " + sum + ")", x -> x.put(2, sum), NOT);
        }
        SMALL.unchangedBy("put(0, 1)", x -> x.put(0, 1), NOT);
        MIDST.unchangedBy("put(1, 6)", x -> x.put(1, 6), NOT);
        LARGE.unchangedBy("put(4, 99)", x -> x.put(4, 99), NOT);
    }

    private static void sumsThatAreNot() {
        for (Twins s : ALL) {
            s.unchangedBy("sum(1, k)", x -> x.sum(1, s.k), NONE);
            s.unchangedBy("sum(1, max)", x -> x.sum(1, MAX), NONE);
        }
        NEW.unchangedBy("sum(3, 0)", x -> x.sum(3, 0), NONE);
        NEW.unchangedBy("sends(3)", x -> x.sends(3), NONE);
        SMALL.unchangedBy("sends(1)", x -> x.sends(1), NONE);
        LARGE.unchangedBy("sum(1, 8)", x -> x.sum(1, 8), NONE);
    }

    // ---- 2 rounds

    private static void badNumbersOfRounds() {
        for (Twins s : ALL) {
            for (int m : new int[] {0, -1, 21, MIN, MAX}) {
                s.unchangedBy("go(" + m + ")", x -> x.go(m), BAD);
            }
            for (int what : new int[] {-1, 3, MIN, MAX}) {
                s.unchangedBy("gain(" + what + ")", x -> x.gain(what), BAD);
            }
            for (int j : new int[] {-1, 10, MIN, MAX}) {
                s.unchangedBy("views(" + j + ")", x -> x.views(j), BAD);
                s.unchangedBy("view(" + j + ", 0)", x -> x.view(j, 0), BAD);
            }
            for (int c : new int[] {-1, 11, MIN, MAX}) {
                s.unchangedBy("joined(" + c + ", 0)", x -> x.joined(c, 0), BAD);
            }
            for (int what : new int[] {-1, 2, MIN, MAX}) {
                s.unchangedBy("joined(3, " + what + ")", x -> x.joined(3, what), BAD);
            }
        }
    }

    private static void roundsOfAllKnown() {
        for (int m : new int[] {1, 2, 20}) {
            KNOWN.unchangedBy("go(" + m + ")", x -> x.go(m), NOT);
        }
        KNOWN.unchangedBy("go(21)", x -> x.go(21), BAD);
        NEW.unchangedBy("foreseen()", TokenRounds::foreseen, NONE);
    }

    // ---- 3 what is done

    private static void badNumbersOfDeeds() {
        int[][] tells = {{0, 1}, {0, 7}, {0, 0}, {0, -4}, {0, MAX}, {1, 0}, {1, 9}, {1, -1}, {1, MIN}, {2, -1}, {2, 4},
            {2, MAX}, {3, 0}, {3, 10}, {3, -9}, {3, MIN}, {-1, 2}, {4, 2}, {4, 0}, {MIN, 3}, {MAX, 3}};
        for (Twins s : ALL) {
            for (int[] t : tells) {
                s.unchangedBy("tell(" + t[0] + ", " + t[1] + ")", x -> x.tell(t[0], t[1]), BAD);
            }
            for (int letter : new int[] {31, 127, 0, -1, 9, 10, 128, 256 + 'a', 65536 + 'a', MIN, MAX}) {
                s.unchangedBy("type(" + letter + ")", x -> x.type(letter), BAD);
            }
            for (int n : new int[] {0, -1, 41, MIN, MAX}) {
                s.unchangedBy("drift(" + n + ")", x -> x.drift(n), BAD);
            }
            for (int v : new int[] {-1, -2, MIN}) {
                s.unchangedBy("seed(" + v + ")", x -> x.seed(v), BAD);
            }
        }
    }

    private static void toldAsItIs() {
        for (Twins s : ALL) {
            s.unchangedBy("tell(0, n)", x -> x.tell(0, s.n), NOT);
            s.unchangedBy("tell(1, k)", x -> x.tell(1, s.k), NOT);
            s.unchangedBy("tell(2, manner)", x -> x.tell(2, x.count(2)), NOT);
            s.unchangedBy("tell(3, span)", x -> x.tell(3, x.count(3)), NOT);
        }
    }

    private static void lettersTooMany() {
        LARGE.unchangedBy("letter 91", x -> x.type('a'), FULL);
        LARGE.unchangedBy("letter 91, a blank", x -> x.type(32), FULL);
        LARGE.unchangedBy("letter 91, ~", x -> x.type(126), FULL);
        LARGE.unchangedBy("letter 91, bad", x -> x.type(127), BAD);
    }

    /** A FAULT: the tape is empty then; all else stays. */
    private static void faultsEmptyTheTapeAlone() {
        fault(NEW, "", -20);
        fault(NEW, "x", -20);
        fault(NEW, "path 01234", -29);
        fault(MIDST, "", -34);
        fault(MIDST, "2;all", -35);
        fault(MIDST, "23;all;path 0122", -49);
        fault(SMALL, "all", -21);
        fault(SMALL, ";;", -25);
        fault(LARGE, "", -110);
        fault(KNOWN, ",", -27);
        fault(UNDONE, "all;all;all;all;all;all;all;all;all", -52);
    }

    private static void fault(Twins s, String more, int due) {
        s.emptiedBy("the fault of '" + more + "'", x -> {
            Check.type(x, more);
            return x.read();
        }, due);
    }

    private static void nothingToUndoOrRestore() {
        NEW.unchangedBy("undo()", TokenRounds::undo, NONE);
        NEW.unchangedBy("restore()", TokenRounds::restore, NONE);
        UNDONE.unchangedBy("undo()", TokenRounds::undo, NONE);
        SMALL.unchangedBy("restore()", TokenRounds::restore, NONE);
        KNOWN.unchangedBy("restore()", TokenRounds::restore, NONE);
    }

    // ---- sheets

    private static void badSheetsAndLanes() {
        for (Twins s : ALL) {
            for (int bad : new int[] {-1, 4, MIN, MAX}) {
                s.unchangedBy("could(" + bad + ", 0, -1)", x -> x.could(bad, 0, -1), BAD);
                s.unchangedBy("could(2, " + bad + ", -1)", x -> x.could(2, bad, -1), BAD);
                s.unchangedBy("film(0, " + bad + ", 0, -1)", x -> x.film(0, bad, 0, -1), BAD);
                s.unchangedBy("film(0, 2, " + bad + ", -1)", x -> x.film(0, 2, bad, -1), BAD);
                s.unchangedBy("sheet(" + bad + ", 0, -1)", x -> x.sheet(bad, 0, -1), BAD);
                s.unchangedBy("sheet(2, " + bad + ", -1)", x -> x.sheet(2, bad, -1), BAD);
                s.unchangedBy("drop(" + bad + ")", x -> x.drop(bad), BAD);
                s.unchangedBy("item(" + bad + ", 0, -1, 1)", x -> x.item(bad, 0, -1, 1), BAD);
                s.unchangedBy("item(2, " + bad + ", -1, 1)", x -> x.item(2, bad, -1, 1), BAD);
                s.unchangedBy("copy(" + bad + ", -1, 2, 0, 1)", x -> x.copy(bad, -1, 2, 0, 1), BAD);
                s.unchangedBy("copy(2, -1, " + bad + ", 0, 1)", x -> x.copy(2, -1, bad, 0, 1), BAD);
            }
            for (int n : new int[] {25, 26, MAX}) {
                s.unchangedBy("sheet(0, 0, " + n + ")", x -> x.sheet(0, 0, n), BAD);
            }
            for (int n : new int[] {-1, -25, MIN}) {
                s.unchangedBy("sheet(0, 0, " + n + ")", x -> x.sheet(0, 0, n), SIZE);
            }
        }
    }

    private static void sheetsOfNothing() {
        Twins[] states = {NEW, MIDST, LARGE, KNOWN, UNDONE};
        int[] nothing = {3, 2, 1, 2, 0};
        for (int i = 0; i < states.length; i++) {
            int sheet = nothing[i];
            for (int lane = 0; lane < 4; lane++) {
                int as = lane;
                states[i].unchangedBy("could of nothing", x -> x.could(sheet, as, -1), NULL);
                states[i].unchangedBy("film to nothing", x -> x.film(0, sheet, as, -1), NULL);
                states[i].unchangedBy("item of nothing", x -> x.item(sheet, as, -1, 5), NULL);
            }
            states[i].unchangedBy("drop of nothing", x -> x.drop(sheet), NULL);
            for (int other = 0; other < 4; other++) {
                int it = other;
                states[i].unchangedBy("copy from nothing", x -> x.copy(sheet, -1, it, -1, -1), NULL);
                states[i].unchangedBy("copy to nothing", x -> x.copy(it, -1, sheet, -1, -1), NULL);
            }
        }
    }

    private static void sheetsOfOtherLanes() {
        int[] lanes = {0, 1, -1, 3};
        for (int sheet = 0; sheet < 4; sheet++) {
            for (int lane = 0; lane < 4; lane++) {
                int at = sheet;
                int as = lane;
                if (lanes[at] >= 0 && as != lanes[at]) {
                    MIDST.unchangedBy("could(" + at + ", " + as + ")", x -> x.could(at, as, -1), CAST);
                    MIDST.unchangedBy("film to " + at + ", " + as, x -> x.film(1, at, as, -1), CAST);
                    MIDST.unchangedBy("item(" + at + ", " + as + ")", x -> x.item(at, as, -1, 5), CAST);
                }
            }
        }
        MIDST.unchangedBy("copy of bytes to shorts", x -> x.copy(0, 0, 1, 0, 1), CAST);
        MIDST.unchangedBy("copy of shorts to bytes", x -> x.copy(1, 0, 0, 0, 1), CAST);
        MIDST.unchangedBy("copy of longs to shorts", x -> x.copy(3, -1, 1, -1, -1), CAST);
        LARGE.unchangedBy("copy of no bytes to longs", x -> x.copy(0, 0, 3, 0, 0), CAST);
    }

    private static void itemsBeyond() {
        for (int i : new int[] {-1, 5, 6, 24, MIN, MAX}) {
            MIDST.unchangedBy("item(0, 0, " + i + ", 5)", x -> x.item(0, 0, i, 5), INDEX);
        }
        for (int i : new int[] {-1, 24, 25, MAX}) {
            LARGE.unchangedBy("item(0, 0, " + i + ", 5)", x -> x.item(0, 0, i, 5), INDEX);
        }
        SMALL.unchangedBy("item 0 of none", x -> x.item(2, 2, 0, 5), INDEX);
        for (int i : new int[] {-1, 2, 5, 6, MIN, MAX}) {
            MIDST.unchangedBy("could(0, 0, " + i + ")", x -> x.could(0, 0, i), INDEX);
        }
        for (int i : new int[] {-1, 19, 24, 25, MAX}) {
            LARGE.unchangedBy("could(0, 0, " + i + ")", x -> x.could(0, 0, i), INDEX);
        }
        SMALL.unchangedBy("could of none", x -> x.could(2, 2, 0), INDEX);
        // node 1 has two sums or more, node 1 of the small ones none
        for (int i : new int[] {-1, 4, 5, 6, MIN, MAX}) {
            MIDST.unchangedBy("film(1, 0, 0, " + i + ")", x -> x.film(1, 0, 0, i), INDEX);
        }
        MIDST.unchangedBy("film to one item", x -> x.film(1, 3, 3, 0), INDEX);
        for (int i : new int[] {-1, 1, 2, MIN, MAX}) {
            SMALL.unchangedBy("film(1, 2, 2, " + i + ")", x -> x.film(1, 2, 2, i), INDEX);
        }
        for (int i : new int[] {-1, 5, MIN, MAX}) {
            UNDONE.unchangedBy("film(1, 2, 2, " + i + ")", x -> x.film(1, 2, 2, i), INDEX);
        }
        SMALL.unchangedBy("film(0, 2, 2, 0)", x -> x.film(0, 2, 2, 0), INDEX);
    }

    private static void copiesBeyond() {
        int[][] beyond = {{-1, 0, 1}, {0, -1, 1}, {0, 0, -1}, {0, 0, 4}, {1, 0, 3}, {0, 1, 3}, {3, 0, 1}, {0, 3, 1},
            {4, 0, 0}, {0, 4, 0}, {-1, 0, 0}, {0, -1, 0}, {MAX, 0, 1}, {0, MAX, 1}, {0, 0, MAX}, {1, 1, MAX},
            {MIN, 0, 1}, {0, MIN, 1}, {0, 0, MIN}, {MAX, MAX, MAX}, {MAX, 0, 0}, {0, MAX, 0}, {4, 4, -1}, {3, 3, -3}};
        for (int[] c : beyond) {
            String what = c[0] + ", 1, " + c[1] + ", " + c[2] + ")";
            KNOWN.unchangedBy("copy(0, " + what, x -> x.copy(0, c[0], 1, c[1], c[2]), INDEX);
            KNOWN.unchangedBy("copy(1, " + what, x -> x.copy(1, c[0], 1, c[1], c[2]), INDEX);
        }
    }

    private static void rowsThatAreNone() {
        MIDST.unchangedBy("could by 4 of 4 tokens", x -> x.could(1, 1, 3), NOT);
        MIDST.unchangedBy("could by 7 of 4 tokens", x -> x.could(1, 1, 0), NOT);
        // round 1: by turns it's token 1 of two that all send, by least token 0
        KNOWN.unchangedBy("could by 1 of 2 tokens", x -> x.could(1, 1, 0), 2);
        LARGE.unchangedBy("could by 8 of 8 tokens", x -> x.could(0, 0, 6), NOT);
        LARGE.unchangedBy("could by 8 of 8 tokens, the last of them", x -> x.could(0, 0, 11 - 5), NOT);
        // round 2: no one tells token 2, but node 5 tells 7
        LARGE.unchangedBy("could with 8 ahead of them", x -> x.could(0, 0, 12), 2);
    }

    // ---- questions change nothing

    private static void questions() {
        for (Twins s : ALL) {
            for (int v = 0; v < s.n; v++) {
                int at = v;
                for (int what = 0; what < 5; what++) {
                    int it = what;
                    asked(s, "node(" + v + ", " + what + ")", x -> x.node(at, it));
                }
                asked(s, "sum(" + v + ", 0)", x -> x.sum(at, 0));
                asked(s, "knows(" + v + ", 1)", x -> x.knows(at, 1));
                asked(s, "sends(" + v + ")", x -> x.sends(at));
                asked(s, "linked(7, " + v + ")", x -> x.linked(7, at));
                asked(s, "view(9, " + v + ")", x -> x.view(9, at));
            }
            for (int what = 0; what < 9; what++) {
                int it = what;
                asked(s, "count(" + what + ")", x -> x.count(it));
                asked(s, "views(" + what + ")", x -> x.views(it));
                asked(s, "joined(" + what + ", 0)", x -> x.joined(it, 0));
                asked(s, "gain(" + what % 3 + ")", x -> x.gain(it % 3));
            }
            asked(s, "foreseen()", TokenRounds::foreseen);
            asked(s, "could(0, 0, 0)", x -> x.could(0, 0, 0));
            asked(s, "could(0, 1, 0)", x -> x.could(0, 1, 0));
            asked(s, "could(2, 2, 0)", x -> x.could(2, 2, 0));
        }
    }

    private static void asked(Twins s, String what, Twins.Call call) {
        s.unchangedBy(what, call, call.on(s.make()));
    }
}
