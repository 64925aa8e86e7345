/** Promises 2 to 8: nodes, plans. */
public final class NodesTest {
    private static final int BAD = TokenRounds.BAD, NOT = TokenRounds.NOT, NONE = TokenRounds.NONE;

    public static void main(String[] args) {
        putGrowsRanks();
        putRefuses();
        nodeTells();
        sumsAreReduced();
        knowsWhatSumsMake();
        sendsByLeast();
        sendsByTurns();
        sendsBySum();
        sendsByAll();
        linkedByPlanAndSpan();
        counts();
        Check.end("NodesTest");
    }

    private static void putGrowsRanks() {
        TokenRounds x = new TokenRounds();
        Check.due("put(0, 3)", x.put(0, 3), 1);
        Check.due("put(0, 6)", x.put(0, 6), 2);
        Check.due("put(0, 5), made by the others,", x.put(0, 5), NOT);
        Check.due("put(0, 15)", x.put(0, 15), 3);
        Check.due("put(0, 1)", x.put(0, 1), 4);
        Check.due("put(0, 9), all known,", x.put(0, 9), NOT);
        Check.due("put(3, 9)", x.put(3, 9), 1);
        Check.due("what refused puts left to undo", x.count(8), 5);
    }

    private static void putRefuses() {
        TokenRounds x = new TokenRounds();
        Check.due("put(-1, 1)", x.put(-1, 1), BAD);
        Check.due("put(4, 1)", x.put(4, 1), BAD);
        Check.due("put(0, 0)", x.put(0, 0), BAD);
        Check.due("put(0, 16)", x.put(0, 16), BAD);
        Check.due("put(0, -1)", x.put(0, -1), BAD);
        Check.due("put(max, max)", x.put(Integer.MAX_VALUE, Integer.MAX_VALUE), BAD);
        Check.due("put(min, min)", x.put(Integer.MIN_VALUE, Integer.MIN_VALUE), BAD);
        Check.due("ranks behind refused puts", x.count(6), 0);
        Check.due("what refused puts left to undo", x.count(8), 0);
        x.tell(0, 6);
        x.tell(1, 8);
        Check.due("put(5, 255)", x.put(5, 255), 1);
        Check.due("put(6, 255)", x.put(6, 255), BAD);
        Check.due("put(5, 256)", x.put(5, 256), BAD);
        x.tell(0, 2);
        x.tell(1, 1);
        Check.due("put(1, 1)", x.put(1, 1), 1);
        Check.due("put(2, 1)", x.put(2, 1), BAD);
        Check.due("put(1, 2)", x.put(1, 2), BAD);
    }

    private static void nodeTells() {
        TokenRounds x = new TokenRounds();
        x.put(1, 12);
        x.put(1, 1);
        Check.due("rank", x.node(1, 0), 2);
        Check.due("told", x.node(1, 1), 1);
        x.put(1, 4);
        Check.due("told behind 4", x.node(1, 1), 13);
        Check.due("sent, nothing yet", x.node(1, 2), 0);
        Check.due("links of 1", x.node(1, 3), 5);
        Check.due("links of 3", x.node(3, 3), 4);
        Check.due("growth of 0", x.node(0, 4), 1);
        Check.due("growth of 1", x.node(1, 4), 0);
        Check.due("growth of 3", x.node(3, 4), 0);
        x.go(1);
        Check.due("sent by the first round", x.node(1, 2), 1);
        x.go(1);
        Check.due("sent by the second round", x.node(1, 2), 5);
        x.tell(2, 3);
        Check.due("growth of 3 by all", x.node(3, 4), x.node(2, 0) - x.node(3, 0));
        Check.read(x, "star 3; ring 0123");
        Check.due("links of 3 by the star, round 2", x.node(3, 3), 7);
        x.go(1);
        Check.due("links of 3 by the ring, round 3", x.node(3, 3), 5);
        Check.due("sent stays by all", x.node(1, 2), 5);
        for (int what = 0; what < 5; what++) {
            Check.due("node(4, " + what + ")", x.node(4, what), BAD);
            Check.due("node(-1, " + what + ")", x.node(-1, what), BAD);
        }
        Check.due("node(0, 5)", x.node(0, 5), BAD);
        Check.due("node(0, -1)", x.node(0, -1), BAD);
    }

    private static void sumsAreReduced() {
        TokenRounds x = new TokenRounds();
        x.tell(1, 8);
        x.put(2, 0b11000011);
        x.put(2, 0b01100110);
        x.put(2, 0b00000111);
        // the first two added lose the 64 of the first; the third's 4 leaves the second
        Check.due("sum(2, 0)", x.sum(2, 0), 0b10100101 ^ 0b00000111);
        Check.due("sum(2, 1)", x.sum(2, 1), 0b01100110 ^ 0b00000111);
        Check.due("sum(2, 2)", x.sum(2, 2), 0b00000111);
        Check.due("sum(2, 3)", x.sum(2, 3), NONE);
        for (int t = 0; t < 8; t++) {
            x.put(0, 255 >> t);
        }
        for (int j = 0; j < 8; j++) {
            Check.due("sum(0, " + j + ") of all", x.sum(0, j), 128 >> j);
        }
        Check.due("sum(0, 8) of all", x.sum(0, 8), NONE);
        x.put(1, 128);
        Check.due("sum(1, 0)", x.sum(1, 0), 128);
        Check.due("sum(2, max)", x.sum(2, Integer.MAX_VALUE), NONE);
        Check.due("sum(2, -1)", x.sum(2, -1), BAD);
        Check.due("sum(4, 0)", x.sum(4, 0), BAD);
        Check.due("sum(-1, 0)", x.sum(-1, 0), BAD);
        Check.due("sum(3, 0), nothing there,", x.sum(3, 0), NONE);
    }

    private static void knowsWhatSumsMake() {
        TokenRounds x = new TokenRounds();
        x.put(0, 3);
        x.put(0, 6);
        int[] known = {1, 0, 0, 1, 0, 1, 1, 0, 0, 0, 0, 0, 0, 0, 0, 0};
        for (int sum = 0; sum < 16; sum++) {
            Check.due("knows(0, " + sum + ")", x.knows(0, sum), known[sum]);
        }
        Check.due("knows(0, 16)", x.knows(0, 16), BAD);
        Check.due("knows(0, -1)", x.knows(0, -1), BAD);
        Check.due("knows(4, 0)", x.knows(4, 0), BAD);
        Check.due("knows(-1, 0)", x.knows(-1, 0), BAD);
    }

    private static void sendsByLeast() {
        TokenRounds x = new TokenRounds();
        x.put(0, 2);
        x.put(0, 8);
        x.put(1, 3);
        Check.due("least: sends(0)", x.sends(0), 2);
        Check.due("least: sends(1), which tells none,", x.sends(1), NONE);
        Check.due("least: asked again", x.sends(0), 2);
        x.go(1);
        Check.due("least: sends(0) in round 1", x.sends(0), 8);
        // 2 and 3 make 1
        Check.due("least: sends(1) in round 1", x.sends(1), 1);
        x.go(1);
        Check.due("least: sends(0) in round 2", x.sends(0), 1);
        x.go(1);
        Check.due("least: sends(0), all sent,", x.sends(0), NONE);
        Check.due("sends(4)", x.sends(4), BAD);
        Check.due("sends(-1)", x.sends(-1), BAD);
    }

    private static void sendsByTurns() {
        TokenRounds x = new TokenRounds();
        x.tell(1, 3);
        x.tell(2, 1);
        x.put(0, 2);
        x.put(1, 6);
        Check.due("turns: sends(0) in round 0", x.sends(0), NONE);
        x.go(1);
        Check.due("turns: sends(0) in round 1", x.sends(0), 2);
        Check.due("turns: sends(1), which can't tell it,", x.sends(1), NONE);
        x.go(1);
        Check.due("turns: sends(1) in round 2", x.sends(1), 4);
        x.go(2);
        Check.due("turns: sends(0) in round 4", x.sends(0), 2);
        Check.due("turns: nothing counts as sent by least", x.node(0, 2), 0);
    }

    // x of the draws behind 1: 16838 (bits 1, 2), 5758 (no bit 0), 10113 (bit 0)
    private static void sendsBySum() {
        TokenRounds x = new TokenRounds();
        x.tell(2, 2);
        x.put(0, 1);
        x.put(0, 2);
        x.put(0, 4);
        x.put(1, 8);
        x.put(3, 8);
        Check.due("sum: sends(0), its sums 1 and 2,", x.sends(0), 3);
        Check.due("sum: sends(1), an empty sum,", x.sends(1), NONE);
        Check.due("sum: sends(2), which knows none,", x.sends(2), NONE);
        Check.due("sum: sends(3)", x.sends(3), 8);
        Check.due("sum: the draw as it was", x.seed(1), 1);
        x.go(1);
        Check.due("sum: the draw behind three", x.seed(1), 662824084);
        Check.due("sum: what 1 has now", x.sum(1, 1), 3);
        Check.due("sum: what 2 has now", x.sum(2, 0), 8);
        TokenRounds y = new TokenRounds();
        y.tell(2, 2);
        y.put(0, 5);
        y.put(0, 3);
        y.seed(662824084);
        // 17515 has bits 0 and 1: what is in both sums is in none
        Check.due("sum: two added", y.sends(0), 6);
    }

    private static void sendsByAll() {
        TokenRounds x = new TokenRounds();
        x.tell(2, 3);
        x.put(0, 3);
        x.put(0, 12);
        Check.due("all: sends(0)", x.sends(0), 2);
        Check.due("all: sends(1), which has none,", x.sends(1), 0);
        x.go(1);
        Check.due("all: sends(1) in round 1", x.sends(1), 2);
        Check.due("all: what 2 has", x.node(2, 0), 0);
    }

    private static void linkedByPlanAndSpan() {
        TokenRounds x = new TokenRounds();
        Check.read(x, "path 0123; star 2; ring 0123");
        int[] ofZero = {2, 4, 10};
        for (int r = 0; r < 9; r++) {
            Check.due("linked(" + r + ", 0)", x.linked(r, 0), ofZero[r % 3]);
        }
        x.tell(3, 4);
        for (int r = 0; r < 30; r++) {
            Check.due("by span 4: linked(" + r + ", 0)", x.linked(r, 0), ofZero[r / 4 % 3]);
        }
        x.tell(3, 9);
        Check.due("by span 9: linked(max, 0)", x.linked(Integer.MAX_VALUE, 0), ofZero[Integer.MAX_VALUE / 9 % 3]);
        Check.due("linked(-1, 0)", x.linked(-1, 0), BAD);
        Check.due("linked(min, 0)", x.linked(Integer.MIN_VALUE, 0), BAD);
        Check.due("linked(0, 4)", x.linked(0, 4), BAD);
        Check.due("linked(0, -1)", x.linked(0, -1), BAD);
    }

    private static void counts() {
        TokenRounds x = new TokenRounds();
        x.tell(0, 3);
        x.tell(1, 2);
        x.tell(2, 3);
        x.tell(3, 5);
        Check.read(x, "all;star 1");
        x.put(0, 1);
        x.put(1, 2);
        x.go(1);
        long[] wants = {3, 2, 3, 5, 1, 2, 6, 3, 6};
        for (int what = 0; what < wants.length; what++) {
            Check.due("count(" + what + ")", x.count(what), wants[what]);
        }
        x.undo();
        Check.due("count(6) behind undo", x.count(6), 2);
        Check.due("count(7) behind undo", x.count(7), 0);
        Check.due("count(8) behind undo", x.count(8), 5);
        Check.due("count(9)", x.count(9), BAD);
        Check.due("count(-1)", x.count(-1), BAD);
    }
}
