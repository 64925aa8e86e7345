/** Promises 15 to 22: what is done. */
public final class DoneTest {
    private static final int BAD = TokenRounds.BAD, NOT = TokenRounds.NOT, FULL = TokenRounds.FULL,
            NONE = TokenRounds.NONE;

    public static void main(String[] args) {
        tellBecomes();
        tellLoses();
        tellRefuses();
        tapeTakesLetters();
        textsAreRead();
        linksAreRead();
        faults();
        faultsOfLinks();
        faultsOfManyNets();
        faultsChangeNothing();
        driftsByDraws();
        driftTurnsAreUndone();
        undoneEach();
        undoneSixAtMost();
        undoneWhateverWasTold();
        seeds();
        images();
        imagesKeepWhatMayBeUndone();
        Check.end("DoneTest");
    }

    private static void tellBecomes() {
        TokenRounds x = new TokenRounds();
        Check.due("tell(0, 6)", x.tell(0, 6), 4);
        Check.due("tell(0, 2)", x.tell(0, 2), 6);
        Check.due("tell(1, 8)", x.tell(1, 8), 4);
        Check.due("tell(1, 1)", x.tell(1, 1), 8);
        Check.due("tell(2, 3)", x.tell(2, 3), 0);
        Check.due("tell(2, 0)", x.tell(2, 0), 3);
        Check.due("tell(3, 9)", x.tell(3, 9), 1);
        Check.due("tell(3, 1)", x.tell(3, 1), 9);
        Check.due("n", x.count(0), 2);
        Check.due("k", x.count(1), 1);
    }

    private static void tellLoses() {
        TokenRounds x = new TokenRounds();
        Check.read(x, "ring 0123; all");
        x.tell(3, 4);
        x.put(0, 3);
        x.put(1, 1);
        x.go(2);
        x.tell(2, 2);
        x.seed(77);
        Check.due("tell(1, 5)", x.tell(1, 5), 4);
        Check.due("k: ranks lost", x.count(6), 0);
        Check.due("k: sent lost", x.node(1, 2), 0);
        Check.due("k: rounds from 0", x.count(4), 0);
        Check.due("k: the plan stays", x.count(5), 2);
        Check.due("k: its links stay", x.linked(0, 0), 10);
        Check.due("k: manner stays", x.count(2), 2);
        Check.due("k: span stays", x.count(3), 4);
        Check.due("k: the draw stays", x.seed(77), 77);
        x.tell(2, 0);
        x.put(1, 1);
        x.go(1);
        Check.due("tell(0, 3)", x.tell(0, 3), 4);
        Check.due("n: ranks lost", x.count(6), 0);
        Check.due("n: sent lost", x.node(1, 2), 0);
        Check.due("n: rounds from 0", x.count(4), 0);
        Check.due("n: one set of links", x.count(5), 1);
        Check.due("n: a path", x.linked(0, 0) * 100 + x.linked(0, 1) * 10 + x.linked(0, 2), 252);
        Check.due("n: manner stays", x.count(2), 0);
        Check.due("n: span stays", x.count(3), 4);
        Check.due("n: k stays", x.count(1), 5);
        Check.due("n: the draw stays", x.seed(77), 77);
    }

    private static void tellRefuses() {
        TokenRounds x = new TokenRounds();
        int[][] bad = {{0, 1}, {0, 7}, {1, 0}, {1, 9}, {2, -1}, {2, 4}, {3, 0}, {3, 10}, {4, 1}, {-1, 1}, {0, -4},
            {4, 4}, {2, Integer.MAX_VALUE}};
        for (int[] call : bad) {
            Check.due("tell(" + call[0] + ", " + call[1] + ")", x.tell(call[0], call[1]), BAD);
        }
        int[] as = {4, 4, 0, 1};
        for (int what = 0; what < 4; what++) {
            Check.due("tell(" + what + ") as it is", x.tell(what, as[what]), NOT);
        }
        Check.due("what refused tells left to undo", x.count(8), 0);
    }

    private static void tapeTakesLetters() {
        TokenRounds x = new TokenRounds();
        Check.due("type(31)", x.type(31), BAD);
        Check.due("type(127)", x.type(127), BAD);
        Check.due("type(-1)", x.type(-1), BAD);
        Check.due("type(65536 + 97)", x.type(65536 + 97), BAD);
        Check.due("type(32)", x.type(32), 1);
        Check.due("type(126)", x.type(126), 2);
        for (int i = 3; i <= 90; i++) {
            Check.due("letter " + i, x.type('b'), i);
        }
        Check.due("letter 91", x.type('b'), FULL);
        Check.due("letter 91, bad", x.type(200), BAD);
        Check.due("a fault at 1", x.read(), -21);
        Check.due("the tape is empty then", x.type('a'), 1);
        x.read();
        Check.type(x, " ".repeat(80) + "all       ");
        Check.due("letter 91 behind a text", x.type(' '), FULL);
        Check.due("90 letters read", x.read(), 1);
        Check.due("their links", x.linked(0, 0), 14);
        Check.type(x, " ".repeat(89) + "a");
        Check.due("90 letters with a fault", x.read(), -109);
        Check.type(x, " ".repeat(90));
        Check.due("90 blanks", x.read(), -110);
    }

    private static String links(TokenRounds x, int r) {
        StringBuilder all = new StringBuilder();
        for (int v = 0; v < x.count(0); v++) {
            all.append(v == 0 ? "" : " ").append(x.linked(r, v));
        }
        return all.toString();
    }

    private static void plan(int n, String text, String... sets) {
        TokenRounds x = new TokenRounds();
        x.tell(0, n);
        Check.due("'" + text + "'", Check.read(x, text), sets.length);
        Check.due("'" + text + "': sets", x.count(5), sets.length);
        for (int r = 0; r < sets.length; r++) {
            Check.row("'" + text + "': links in round " + r, links(x, r), sets[r]);
        }
    }

    private static void textsAreRead() {
        plan(4, "path 0123", "2 5 10 4");
        plan(4, "path2031", "12 8 1 3");
        plan(4, "  path 2 0  3 1  ", "12 8 1 3");
        plan(4, "ring 0123", "10 5 10 5");
        plan(4, "ring 0213", "12 12 3 3");
        plan(4, "star 2", "4 4 11 4");
        plan(4, "star2;all", "4 4 11 4", "14 13 11 7");
        plan(6, "all ;ring 543210 ; star 5", "62 61 59 55 47 31", "34 5 10 20 40 17", "32 32 32 32 32 31");
        plan(2, "path 10", "2 1");
        plan(2, "ring 01", "2 1");
        plan(2, "ring 10;star 0;star 1;all", "2 1", "2 1", "2 1", "2 1");
        plan(3, "all;all;all;all;all;all;all;star 1", "6 5 3", "6 5 3", "6 5 3", "6 5 3", "6 5 3", "6 5 3", "6 5 3",
            "2 5 2");
    }

    private static void linksAreRead() {
        plan(4, "links 0-1,1-2,2-3", "2 5 10 4");
        plan(4, "links3-2,1-2,1-0", "2 5 10 4");
        plan(4, "links 0 - 3 , 3-1,2 -3 ; all", "8 8 8 7", "14 13 11 7");
        plan(3, "links 0-1,1-2,0-2", "6 5 3");
        plan(2, "links 1-0;links 0-1", "2 1", "2 1");
        TokenRounds x = new TokenRounds();
        x.tell(3, 3);
        x.put(0, 15);
        x.go(2);
        Check.read(x, "star 1;all");
        Check.due("span stays", x.count(3), 3);
        Check.due("rounds stay", x.count(4), 2);
        Check.due("ranks stay", x.count(6), 1);
        Check.due("links of round 2", x.node(0, 3), 2);
        Check.due("links of round 3", x.linked(3, 0), 14);
    }

    private static void fault(int n, String text, int place) {
        TokenRounds x = new TokenRounds();
        x.tell(0, n);
        Check.due("'" + text + "' for " + n, Check.read(x, text), -20 - place);
    }

    private static void faults() {
        fault(4, "", 0);
        fault(4, "   ", 3);
        fault(4, "pat 0123", 0);
        fault(4, "  paths 0123", 2);
        fault(4, "pa th 0123", 0);
        fault(4, "Path 0123", 0);
        fault(4, "pathX0123", 4);
        fault(4, "0123", 0);
        fault(4, "a", 0);
        fault(4, "allall", 0);
        fault(4, "allz", 0);
        fault(4, "math 0123", 0);
        fault(4, "patt 0123", 0);
        fault(4, "stars 0", 0);
        fault(4, "Star 0", 0);
        fault(4, "all{", 3);
        fault(4, "all`", 3);
        fault(4, "all all", 4);
        fault(4, "path", 4);
        fault(4, "path  ", 6);
        fault(4, "path 012", 8);
        fault(4, "path 012 ", 9);
        fault(4, "path 012;all", 8);
        fault(4, "path 0124", 8);
        fault(4, "path 0121", 8);
        fault(4, "path 01234", 9);
        fault(4, "path 01233", 9);
        fault(4, "path 0-1", 6);
        fault(4, "path 01x3", 7);
        fault(4, "path 0123 path", 10);
        fault(4, "path 0123,", 9);
        fault(4, "ring 012", 8);
        fault(4, "ring 0120", 8);
        fault(3, "ring 0123", 8);
        fault(2, "ring 011", 7);
        fault(2, "ring 2", 5);
        fault(4, "star", 4);
        fault(4, "star 4", 5);
        fault(4, "star 12", 6);
        fault(4, "star x", 5);
        fault(4, "star ;", 5);
        fault(4, "all 0", 4);
        fault(4, "all,", 3);
        fault(4, "path 0123;", 10);
        fault(4, "path 0123; ", 11);
        fault(4, ";path 0123", 0);
        fault(4, "all;;all", 4);
        fault(4, "all; ring 012; all", 13);
        fault(6, "path 01234", 10);
    }

    private static void faultsOfLinks() {
        fault(4, "links", 5);
        fault(4, "links ;", 6);
        fault(4, "links 4-0", 6);
        fault(4, "links 0", 7);
        fault(4, "links 01", 7);
        fault(4, "links 0 1", 8);
        fault(4, "links 0-", 8);
        fault(4, "links 0-4", 8);
        fault(4, "links 0-0", 8);
        fault(4, "links 0-1,", 10);
        fault(4, "links 0-1,;", 10);
        fault(4, "links 0-1, 0 - 1", 15);
        fault(4, "links 0-1,1-0", 12);
        fault(4, "links 0-1,2-3", 13);
        fault(4, "links 0-1,2-3;all", 13);
        fault(4, "links 0-1,1-2,2-0 ;all", 18);
        fault(4, "links 0-1,1-2,2-3,", 18);
        fault(4, "links 0-1,1-2,2-3,3-2", 20);
        fault(4, "links 0-1,1-2,2-3 0", 18);
        fault(4, "links 0-1 1-2", 10);
        fault(4, "links 0-1,1-2,2-3,0", 19);
        fault(4, "links 0-1,1-2,2-3,0;all", 19);
        fault(4, "links 0-1,1-2,2-3,0-", 20);
        fault(4, "links 0-1,1-2,2-3,0-;all", 20);
        fault(4, "links 0-1,1-2,2-3,;all", 18);
        fault(4, "link 0-1,1-2,2-3", 0);
        fault(6, "links 0-1,0-2,0-3,0-4", 21);
    }

    private static void faultsOfManyNets() {
        String eight = "all;all;all;all;all;all;all;all";
        plan(2, eight, "2 1", "2 1", "2 1", "2 1", "2 1", "2 1", "2 1", "2 1");
        fault(2, eight + ";all", 32);
        fault(2, eight + "; all", 33);
        fault(2, eight + ";", 32);
        fault(2, eight + ";  ", 34);
        fault(2, eight + "all", 28);
        fault(2, eight + " all", 32);
    }

    private static void faultsChangeNothing() {
        TokenRounds x = new TokenRounds();
        Check.read(x, "ring 0123;star 0");
        Check.due("a fault behind a good net", Check.read(x, "all;path 012"), -32);
        Check.due("sets as they were", x.count(5), 2);
        Check.row("links as they were", links(x, 0), "10 5 10 5");
        Check.due("what a fault leaves to undo", x.count(8), 1);
        Check.due("the tape is empty then", Check.read(x, "all"), 1);
        Check.due("a text may be undone", x.count(8), 2);
        Check.due("the same text again may be, too", Check.read(x, "all") + x.count(8), 4);
    }

    // x of the draws behind 1: 16838, 5758, 10113, 17515, 31051, 5627, 23010, 7419, 16212, 4086, 2749, 12767
    private static void driftsByDraws() {
        TokenRounds x = new TokenRounds();
        Check.due("a token for 1", x.drift(1), 1);
        Check.due("it is 3", x.node(1, 1), 8);
        Check.due("a token for 3", x.drift(1), 2);
        Check.due("it is 1", x.node(3, 1), 2);
        Check.due("a token for 0", x.drift(1), 3);
        Check.due("it is 2", x.node(0, 1), 4);
        Check.due("a manner", x.drift(1), 3);
        Check.due("it is 2", x.count(2), 2);
        Check.due("two more as it is, another token, a manner", x.drift(4), 4);
        Check.due("it is 3", x.node(0, 1), 12);
        Check.due("a round", x.drift(1), 7);
        Check.due("round", x.count(4), 1);
        Check.due("0 sent 2 to 1", x.node(1, 1), 12);
        Check.due("1 and 3 sent to 2", x.node(2, 1), 10);
        Check.due("drift(0)", x.drift(0), BAD);
        Check.due("drift(41)", x.drift(41), BAD);
        Check.due("drift(-1)", x.drift(-1), BAD);
        Check.due("ranks as they were", x.count(6), 7);
        TokenRounds y = new TokenRounds();
        y.seed(1);
        Check.due("as many at once", y.drift(9), 7);
        Check.due("the same draw", y.seed(0), x.seed(0));
        TokenRounds z = new TokenRounds();
        Check.due("forty", z.drift(40), 14);
        Check.due("forty leave to undo", z.count(8), 6);
    }

    private static void driftTurnsAreUndone() {
        TokenRounds x = new TokenRounds();
        x.drift(5);
        Check.due("turns to undo", x.count(8), 5);
        Check.due("one that changed nothing undone", x.undo(), 4);
        Check.due("the manner stays", x.count(2), 2);
        Check.due("a manner undone", x.undo(), 3);
        Check.due("the manner as it was", x.count(2), 0);
        Check.due("the draw as it was", x.seed(5), 662824084);
        Check.due("a token undone", x.undo(), 2);
        Check.due("ranks as they were", x.count(6), 2);
        Check.due("the draw as it was", x.seed(5), 377401575);
        x.undo();
        x.undo();
        Check.due("the first draw", x.seed(5), 1);
    }

    private static void undoneEach() {
        TokenRounds x = new TokenRounds();
        Check.due("nothing to undo", x.undo(), NONE);
        x.put(0, 3);
        Check.due("a put undone", x.undo() * 10 + x.count(6), 0);
        x.put(0, 1);
        x.go(3);
        Check.due("rounds undone", x.undo() * 10 + x.count(4), 10);
        Check.due("sent by them undone", x.node(0, 2), 0);
        Check.due("ranks of them undone", x.count(6), 1);
        x.tell(1, 8);
        Check.due("k undone", x.undo() * 10 + x.count(1), 14);
        Check.due("what was lost by k is back", x.count(6), 1);
        Check.read(x, "ring 0123;all");
        x.go(1);
        x.tell(0, 6);
        Check.due("n undone", x.undo() * 10 + x.count(0), 34);
        Check.due("the plan is back", x.count(5), 2);
        Check.due("the round is back", x.count(4), 1);
        x.undo();
        Check.due("a text undone", x.undo() * 10 + x.count(5), 11);
        Check.row("the path is back", links(x, 0), "2 5 10 4");
        x.tell(2, 3);
        Check.due("manner undone", x.undo() * 10 + x.count(2), 10);
        x.tell(3, 3);
        Check.due("span undone", x.undo() * 10 + x.count(3), 11);
        x.undo();
        Check.due("nothing left", x.undo(), NONE);
    }

    private static void undoneSixAtMost() {
        TokenRounds x = new TokenRounds();
        for (int span = 2; span <= 9; span++) {
            x.tell(3, span);
            Check.due("known behind span " + span, x.count(8), Math.min(6, span - 1));
        }
        for (int left = 5; left >= 0; left--) {
            Check.due("more to undo", x.undo(), left);
            Check.due("span then", x.count(3), left + 3);
        }
        Check.due("older ones are lost", x.undo(), NONE);
        x.tell(3, 1);
        Check.due("known again", x.count(8), 1);
    }

    private static void undoneWhateverWasTold() {
        TokenRounds x = new TokenRounds();
        x.seed(11);
        x.put(0, 1);
        x.seed(12);
        x.sheet(0, 0, 5);
        Check.type(x, "al");
        x.image();
        x.undo();
        Check.due("the draw ahead of it", x.seed(13), 11);
        Check.due("the tape stays", x.type('l'), 3);
        Check.due("the sheets stay", x.drop(0), 5);
        Check.due("the image stays", x.restore(), 1);
        Check.due("ranks of the image", x.count(6), 1);
        Check.due("the draw of the image", x.seed(13), 12);
        Check.due("the tape stays again", x.read(), 1);
    }

    private static void seeds() {
        TokenRounds x = new TokenRounds();
        Check.due("seed(5)", x.seed(5), 1);
        Check.due("seed(-1)", x.seed(-1), BAD);
        Check.due("seed(min)", x.seed(Integer.MIN_VALUE), BAD);
        Check.due("seed(max)", x.seed(Integer.MAX_VALUE), 5);
        Check.due("seed(0)", x.seed(0), Integer.MAX_VALUE);
        x.drift(1);
        // 12345 has no bit at 16 or above: x is 0, a round
        Check.due("the draw behind 0", x.seed(1), 12345);
        Check.due("a round by it", x.count(4), 1);
        Check.due("seeds are not undone themselves", x.count(8), 1);
    }

    private static void images() {
        TokenRounds x = new TokenRounds();
        Check.due("no image", x.restore(), NONE);
        Check.read(x, "ring 0123;star 1");
        x.tell(2, 2);
        x.tell(3, 2);
        x.put(0, 1);
        x.put(0, 2);
        x.go(3);
        x.seed(99);
        int ranks = x.count(6);
        Check.due("image()", x.image(), 1);
        x.tell(0, 6);
        x.tell(1, 8);
        x.tell(2, 0);
        x.put(5, 200);
        x.seed(3);
        x.sheet(1, 2, 7);
        Check.type(x, "a");
        for (int i = 0; i < 2; i++) {
            Check.due("restore()", x.restore(), 1);
            long[] wants = {4, 4, 2, 2, 3, 2, ranks};
            for (int what = 0; what < wants.length; what++) {
                Check.due("restored: count(" + what + ")", x.count(what), wants[what]);
            }
            Check.row("restored links", links(x, 0), "10 5 10 5");
            Check.due("restored draw", x.seed(4), 99);
            Check.due("sheets stay", x.drop(1), i == 0 ? 7 : TokenRounds.NULL);
            x.drift(20);
        }
        Check.due("the tape stays", x.type('l'), 2);
        x.image();
        x.tell(3, 9);
        x.restore();
        Check.due("a new image is kept for the old one", x.count(4) >= 3 && x.count(3) == 2 ? 1 : 0, 1);
    }

    private static void imagesKeepWhatMayBeUndone() {
        TokenRounds x = new TokenRounds();
        x.seed(31);
        x.tell(3, 2);
        x.seed(32);
        x.tell(3, 3);
        x.image();
        x.undo();
        x.undo();
        x.tell(3, 9);
        x.tell(2, 1);
        x.tell(1, 1);
        x.restore();
        Check.due("restored: what may be undone", x.count(8), 2);
        Check.due("restored: undone", x.undo(), 1);
        Check.due("restored: span", x.count(3), 2);
        Check.due("restored: undone", x.undo(), 0);
        Check.due("restored: span", x.count(3), 1);
        Check.due("restored: the oldest draw", x.seed(33), 31);
        x.restore();
        Check.due("restored again: what may be undone", x.count(8), 2);
        x.undo();
        Check.due("restored again: span", x.count(3), 2);
    }
}
