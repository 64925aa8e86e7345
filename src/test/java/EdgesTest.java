import java.math.BigInteger;
import java.util.ArrayList;
import java.util.Arrays;
import java.util.List;
import java.util.TreeSet;

/** Promises 2 to 14 at their edges: the empty, the full, what wraps around, and small nets and sums tried whole. */
public final class EdgesTest {
    private static final int BAD = TokenRounds.BAD, NOT = TokenRounds.NOT, NONE = TokenRounds.NONE;
    private static final int MAX = Integer.MAX_VALUE;

    public static void main(String[] args) {
        nothingAtFirst();
        allKnown();
        allSumsOfThreeTokens();
        linksWrapAround();
        leastToTheLast();
        leastByLeastAlone();
        turnsWrapAround();
        sumsByBits();
        oneDrawForEachThatKnows();
        allOfNoneAndOfAll();
        atOnce();
        drawsWrapAround();
        goToTheLast();
        gainsOfAllNets();
        gainsOfNoneAndOfAll();
        worstOfTheMost();
        foreseenSixty();
        foreseenByPlanAndDraw();
        viewsOfNine();
        viewsAlike();
        joinedOfAllNets();
        joinedOfMostLinks();
        Check.end("EdgesTest");
    }

    static TokenRounds of(int n, int k, int manner) {
        TokenRounds x = new TokenRounds();
        x.tell(0, n);
        x.tell(1, k);
        x.tell(2, manner);
        return x;
    }

    /** THE DRAW changed, by the words of the document. */
    static int changed(int draw) {
        return BigInteger.valueOf(draw).multiply(BigInteger.valueOf(1103515245)).add(BigInteger.valueOf(12345))
            .mod(BigInteger.ONE.shiftLeft(31)).intValueExact();
    }

    // ---- 1 nodes, plans

    private static void nothingAtFirst() {
        for (int n = 2; n <= 6; n++) {
            for (int k = 1; k <= 8; k++) {
                TokenRounds x = of(n, k, 0);
                String of = n + " nodes, " + k + " tokens at first: ";
                Check.due(of + "ranks", x.count(6), 0);
                Check.due(of + "full", x.count(7), 0);
                for (int v = 0; v < n; v++) {
                    Check.due(of + "rank", x.node(v, 0), 0);
                    Check.due(of + "told", x.node(v, 1), 0);
                    Check.due(of + "sent", x.node(v, 2), 0);
                    Check.due(of + "links", x.node(v, 3), (v > 0 ? 1 << v - 1 : 0) + (v < n - 1 ? 1 << v + 1 : 0));
                    Check.due(of + "growth", x.node(v, 4), 0);
                    Check.due(of + "sum 0", x.sum(v, 0), NONE);
                    Check.due(of + "sends", x.sends(v), NONE);
                    Check.due(of + "the empty sum", x.knows(v, 0), 1);
                    Check.due(of + "the least sum", x.knows(v, 1), 0);
                    Check.due(of + "the greatest sum", x.knows(v, (1 << k) - 1), 0);
                }
            }
        }
    }

    private static void allKnown() {
        for (int k = 1; k <= 8; k++) {
            TokenRounds x = of(3, k, 0);
            int all = (1 << k) - 1;
            for (int t = 0; t < k; t++) {
                // each with all greater tokens: no one is told ahead of the last
                Check.due("put the rank " + (t + 1) + " of " + k, x.put(1, all & all << k - 1 - t), t + 1);
                Check.due("how many know all", x.count(7), t == k - 1 ? 1 : 0);
            }
            Check.due("told of " + k, x.node(1, 1), all);
            for (int sum = 0; sum <= all; sum++) {
                Check.due("knows", x.knows(1, sum), 1);
            }
            for (int sum = 0; sum <= all; sum += sum < 16 ? 1 : 3) {
                Check.due("put of what is known", x.put(1, sum), sum == 0 ? BAD : NOT);
            }
            for (int j = 0; j < k; j++) {
                Check.due("sum " + j + " of " + k, x.sum(1, j), 1 << k - 1 - j);
            }
            Check.due("sum k", x.sum(1, k), NONE);
            Check.due("rank", x.node(1, 0), k);
            Check.due("growth of what is full", x.node(1, 4), 0);
            Check.due("what another knows", x.node(0, 0) + x.node(2, 0), 0);
        }
    }

    /** All rows of four sums put, some of them known already; all that they make, by trying. */
    private static void allSumsOfThreeTokens() {
        for (int code = 0; code < 7 * 7 * 7 * 7; code++) {
            TokenRounds x = of(2, 3, 0);
            TreeSet<Integer> known = new TreeSet<>(List.of(0));
            int left = code;
            for (int i = 0; i < 4; i++) {
                int sum = 1 + left % 7;
                left /= 7;
                boolean news = !known.contains(sum);
                known = Model.with(known, sum);
                Check.due("put of row " + code, x.put(1, sum), news ? Model.rank(known) : NOT);
            }
            int told = 0;
            for (int sum = 0; sum < 8; sum++) {
                Check.due("knows by row " + code, x.knows(1, sum), known.contains(sum) ? 1 : 0);
                told |= Integer.bitCount(sum) == 1 && known.contains(sum) ? sum : 0;
            }
            Check.due("told by row " + code, x.node(1, 1), told);
            itsSums(x, code);
        }
    }

    /** The greatest token of each is in no other one, the greatest of these first; they make as much as is known. */
    private static void itsSums(TokenRounds x, int code) {
        int rank = x.node(1, 0);
        TreeSet<Integer> made = new TreeSet<>(List.of(0));
        for (int j = 0; j < rank; j++) {
            int top = Integer.highestOneBit(x.sum(1, j));
            for (int i = 0; i < rank; i++) {
                Check.holds("row " + code + ": a greatest token in one sum", i == j || (x.sum(1, i) & top) == 0);
            }
            Check.holds("row " + code + ": in order", j == 0 || top < Integer.highestOneBit(x.sum(1, j - 1)));
            Check.holds("row " + code + ": known", x.knows(1, x.sum(1, j)) == 1);
            made = Model.with(made, x.sum(1, j));
        }
        Check.due("row " + code + ": all made", made.size(), 1 << rank);
        Check.due("row " + code + ": no more", x.sum(1, rank), NONE);
    }

    private static void linksWrapAround() {
        String text = "star 0;star 1;star 2;star 3;star 4;star 5;all;ring 012345";
        int[] ofOne = {1, 61, 4, 8, 16, 32, 61, 5};
        int[] ofZero = {62, 2, 4, 8, 16, 32, 62, 34};
        for (int nets = 1; nets <= 8; nets++) {
            TokenRounds x = of(6, 1, 0);
            String[] each = text.split(";");
            Check.due("a plan of " + nets, Check.read(x, String.join(";", Arrays.copyOf(each, nets))), nets);
            for (int span = 1; span <= 9; span++) {
                x.tell(3, span);
                for (int r : new int[] {0, 1, span - 1, span, span + 1, nets * span - 1, nets * span, 2 * nets * span,
                    71, 72, 73, MAX - 1, MAX}) {
                    String what = nets + " nets, span " + span + ": linked(" + r + ")";
                    Check.due(what, x.linked(r, 0), ofZero[r / span % nets]);
                    Check.due(what, x.linked(r, 1), ofOne[r / span % nets]);
                }
            }
        }
        TokenRounds x = of(6, 1, 0);
        Check.read(x, text);
        x.tell(3, 9);
        for (int r = 0; r <= 145; r++) {
            Check.due("links of the present round " + r, x.node(1, 3), ofOne[r / 9 % 8]);
            x.go(1);
        }
    }

    // ---- sends

    private static void leastToTheLast() {
        for (int k = 1; k <= 8; k++) {
            TokenRounds x = of(2, k, 0);
            for (int t = k - 1; t >= 0; t--) {
                x.put(0, 1 << t);
            }
            for (int t = 0; t < k; t++) {
                Check.due("token " + t + " of " + k, x.sends(0), 1 << t);
                Check.due("sent ahead of it", x.node(0, 2), (1 << t) - 1);
                Check.due("growth of the other", x.node(1, 4), 1);
                Check.due("a round", x.go(1), 1);
                Check.due("told by the other", x.node(1, 1), (2 << t) - 1);
            }
            Check.due("all of " + k + " sent", x.sends(0), NONE);
            Check.due("the set of them", x.node(0, 2), (1 << k) - 1);
            // the other sends what it got, one round later each: the last one is left
            Check.due("the last of the other", x.sends(1), 1 << k - 1);
            Check.due("no round more", x.go(1), NOT);
        }
    }

    private static void leastByLeastAlone() {
        TokenRounds x = of(3, 3, 1);
        x.put(0, 1);
        x.put(0, 4);
        x.go(3);
        Check.due("by turns both were sent", x.node(1, 1), 5);
        x.tell(2, 3);
        x.go(1);
        x.tell(2, 2);
        x.go(1);
        Check.due("none of them by least", x.node(0, 2), 0);
        x.tell(2, 0);
        Check.due("so it is sent now", x.sends(0), 1);
        x.go(1);
        x.tell(2, 1);
        x.go(1);
        x.tell(2, 0);
        Check.due("and no more, whatever was between", x.sends(0), 4);
        Check.due("the one sent", x.node(0, 2), 1);
        // 3 and 6 are known, no token is told
        TokenRounds y = of(2, 3, 0);
        y.put(0, 3);
        y.put(0, 6);
        Check.due("least with nothing told", y.sends(0), NONE);
        y.go(1);
        Check.due("nothing sent", y.node(0, 2) + y.count(6), 2);
        y.put(0, 4);
        Check.due("told at last", y.sends(0), 1);
    }

    private static void turnsWrapAround() {
        for (int k = 1; k <= 8; k++) {
            TokenRounds x = of(2, k, 1);
            x.put(0, 1 << k - 1);
            for (int r = 0; r < 2 * k + 2; r++) {
                Check.due(k + " tokens, round " + r, x.sends(0), r % k == k - 1 ? 1 << k - 1 : NONE);
                Check.due("growth then", x.node(1, 4), k == 1 || r == k - 1 ? 1 : 0);
                if (k > 1) {
                    x.go(1);
                }
            }
            Check.due("a token of the other", x.node(1, 1), k > 1 ? 1 << k - 1 : 0);
        }
        for (int r = 1; r <= 20; r++) {
            TokenRounds x = of(2, 1, 1);
            x.go(r);
            x.put(1, 1);
            Check.due("1 token, round " + r, x.sends(1), 1);
        }
    }

    /** A node that knows all of 8 sends token 7 - j for each bit j, 0 to 7, that x has. */
    private static void sumsByBits() {
        int[] seeds = {0, 1, 2, 3, 77, 65535, 65536, 1 << 24, 1 << 30, MAX, MAX - 1, 12345, 1103515245, 99999999};
        for (int k = 1; k <= 8; k++) {
            TokenRounds x = of(2, k, 2);
            for (int t = 0; t < k; t++) {
                x.put(1, 1 << t);
            }
            for (int i = 0; i < 40; i++) {
                int seed = i < seeds.length ? seeds[i] : changed(x.seed(0) + i);
                x.seed(seed);
                int drawn = changed(seed) / 65536;
                int sent = 0;
                for (int j = 0; j < k; j++) {
                    sent += (drawn >> j) % 2 == 1 ? 1 << k - 1 - j : 0;
                }
                Check.due("of " + k + " by the draw " + seed, x.sends(1), sent == 0 ? NONE : sent);
                Check.due("growth by the draw " + seed, x.node(0, 4), sent == 0 ? 0 : 1);
                Check.due("the one that knows none", x.sends(0), NONE);
            }
        }
    }

    private static void oneDrawForEachThatKnows() {
        for (int knowing = 0; knowing < 64; knowing++) {
            TokenRounds x = of(6, 8, 2);
            x.seed(4321);
            int draw = 4321;
            for (int v = 0; v < 6; v++) {
                if ((knowing >> v & 1) == 1) {
                    x.put(v, 128 >> v);
                }
            }
            for (int v = 0; v < 6; v++) {
                boolean knows = (knowing >> v & 1) == 1;
                draw = knows ? changed(draw) : draw;
                boolean sent = knows && draw / 65536 % 2 == 1;
                Check.due("set " + knowing + ": sends(" + v + ")", x.sends(v), sent ? 128 >> v : NONE);
            }
            x.go(1);
            Check.due("set " + knowing + ": the draw behind a round", x.seed(1), draw);
            TokenRounds y = of(6, 8, 3);
            y.seed(4321);
            y.put(0, 1);
            y.go(1);
            Check.due("no draw by another manner", y.seed(0), 4321);
        }
    }

    private static void allOfNoneAndOfAll() {
        for (int rank = 0; rank <= 8; rank++) {
            TokenRounds x = of(3, 8, 3);
            for (int t = 0; t < rank; t++) {
                x.put(0, 255 >> t);
            }
            Check.due("all of " + rank, x.sends(0), rank);
            Check.due("growth by all of " + rank, x.node(1, 4), rank);
            Check.due("growth of one not linked", x.node(2, 4), 0);
            x.go(1);
            Check.due("got of " + rank, x.node(1, 0), rank);
            Check.due("not linked", x.node(2, 0), 0);
        }
    }

    /** In each round what was there ahead of it goes over one link, no more: by each manner, each net. */
    private static void atOnce() {
        for (int manner = 0; manner < 4; manner++) {
            TokenRounds x = of(6, 1, manner);
            Check.read(x, "path 543210");
            x.put(5, 1);
            x.put(0, 1);
            // all x below are odd, so it is sent by sums, too
            x.seed(oddThree());
            x.go(1);
            int got = 0;
            for (int v = 0; v < 6; v++) {
                got |= x.node(v, 0) << v;
            }
            Check.due("manner " + manner + ": who knows behind a round", got, 0b110011);
        }
        TokenRounds x = of(2, 2, 3);
        x.put(0, 1);
        x.put(1, 2);
        x.go(1);
        Check.due("both get at once", x.count(7), 2);
        TokenRounds y = of(3, 3, 3);
        y.put(1, 7);
        y.put(0, 1);
        y.put(2, 2);
        Check.due("what two send to one", y.node(1, 4), 2);
        Check.due("what one sends to each", y.node(0, 4) + y.node(2, 4), 2);
        y.go(1);
        Check.due("ranks then", y.node(0, 0) * 100 + y.node(1, 0) * 10 + y.node(2, 0), 232);
    }

    /** A seed behind which three draws have a lowest bit. */
    private static int oddThree() {
        for (int seed = 0; seed < 100000; seed++) {
            int a = changed(seed);
            int b = changed(a);
            if (a / 65536 % 2 == 1 && b / 65536 % 2 == 1 && changed(b) / 65536 % 2 == 1) {
                return seed;
            }
        }
        return 0;
    }

    private static void drawsWrapAround() {
        int[] seeds = {0, 1, 2, 3, 65535, 65536, 1 << 30, (1 << 30) - 1, MAX, MAX - 1, MAX - 12345, 1103515245, 2, 4, 8};
        for (int seed : seeds) {
            TokenRounds x = of(2, 1, 2);
            x.put(0, 1);
            Check.due("the first draw", x.seed(seed), 1);
            x.go(1);
            Check.due("the draw behind " + seed, x.seed(0), changed(seed));
        }
    }

    // ---- 2 rounds

    private static void goToTheLast() {
        TokenRounds x = of(6, 1, 0);
        x.put(0, 1);
        Check.due("go(4)", x.go(4), 4);
        Check.due("how many know all", x.count(7), 5);
        Check.due("go(20), one is left", x.go(20), 1);
        Check.due("round", x.count(4), 5);
        Check.due("go(20)", x.go(20), NOT);
        x.undo();
        Check.due("behind an undo, go(1)", x.go(1), 1);
        Check.due("go(1) again", x.go(1), NOT);
        TokenRounds y = of(6, 1, 0);
        y.put(0, 1);
        Check.due("go(5), just as many", y.go(5), 5);
        Check.due("go(1) then", y.go(1), NOT);
        TokenRounds z = of(2, 1, 0);
        Check.due("nothing comes in 20", z.go(20) + z.count(6), 20);
        Check.due("nor in 20 more", z.go(20) + z.count(4), 60);
        z.put(0, 1);
        Check.due("by least, it's sent once", z.go(20), 1);
        TokenRounds w = of(2, 1, 0);
        w.put(0, 1);
        w.put(1, 1);
        Check.due("all know all at first", w.go(1), NOT);
        Check.due("nothing to undo by that", w.count(8), 4);
        Check.due("no round", w.count(4), 0);
    }

    private static List<int[]> pairs(int n) {
        List<int[]> all = new ArrayList<>();
        for (int a = 0; a < n; a++) {
            for (int b = a + 1; b < n; b++) {
                all.add(new int[] {a, b});
            }
        }
        return all;
    }

    /** The text of some of the pairs, each bit one of them. */
    private static String links(int n, int which) {
        StringBuilder text = new StringBuilder("links");
        for (int i = 0; i < pairs(n).size(); i++) {
            if ((which >> i & 1) == 1) {
                text.append(text.length() == 5 ? "" : ",").append(pairs(n).get(i)[0]).append('-').append(pairs(n).get(i)[1]);
            }
        }
        return text.toString();
    }

    private static TokenRounds state(int n, int manner, int i) {
        int[][] puts = {{0, 1}, {0, 1, 1, 2}, {0, 3, 1, 5, 1, 1}, {0, 1, 0, 2, 0, 4, 0, 8}, {1, 15, 0, 7, 0, 1}};
        TokenRounds x = of(n, 4, manner);
        for (int j = 0; j < puts[i].length; j += 2) {
            x.put((puts[i][j] + i) % n, puts[i][j + 1]);
        }
        return x;
    }

    /** WORST is the least by all links that join all, BEST the most: by telling each of them. */
    private static void gainsOfAllNets() {
        int[] joining = {0, 0, 1, 4, 38, 728};
        for (int n = 2; n <= 5; n++) {
            int told = 0;
            for (int i = 0; i < 5; i++) {
                for (int manner = i % 2; manner < 4; manner += n == 5 ? 3 : 1) {
                    TokenRounds path = state(n, manner, i);
                    int worst = path.gain(1);
                    int best = path.gain(2);
                    int least = MAX;
                    int most = 0;
                    told = 0;
                    for (int which = 1; which < 1 << pairs(n).size(); which++) {
                        TokenRounds x = state(n, manner, i);
                        if (Check.read(x, links(n, which)) == 1) {
                            told++;
                            least = Math.min(least, x.gain(0));
                            most = Math.max(most, x.gain(0));
                            Check.due("worst, whatever the links are", x.gain(1), worst);
                        }
                    }
                    Check.due(n + " nodes, state " + i + ", manner " + manner + ": worst", worst, least);
                    Check.due(n + " nodes, state " + i + ", manner " + manner + ": best", best, most);
                }
            }
            Check.due("how many links join " + n, told, joining[n]);
        }
    }

    private static void gainsOfNoneAndOfAll() {
        for (int manner = 0; manner < 4; manner++) {
            for (int n = 2; n <= 6; n++) {
                TokenRounds x = of(n, 1, manner);
                x.seed(oddThree());
                Check.due("nothing known", x.gain(0) + x.gain(1) + x.gain(2), 0);
                x.put(n - 1, 1);
                Check.due("one at the end: by its links", x.gain(0), 1);
                Check.due("one at the end: worst", x.gain(1), 1);
                Check.due("one at the end: best", x.gain(2), n - 1);
                for (int v = 0; v < n - 1; v++) {
                    x.put(v, 1);
                }
                Check.due("all known", x.gain(0) + x.gain(1) + x.gain(2), 0);
            }
        }
        TokenRounds x = of(6, 8, 3);
        for (int t = 0; t < 8; t++) {
            x.put(3, 1 << t);
        }
        Check.due("the most by all: best", x.gain(2), 40);
        Check.due("the most by all: by a path", x.gain(0), 16);
        Check.due("the most by all: worst", x.gain(1), 8);
    }

    /** Six nodes with half of all each, any two of which make all: each link brings each of them all that it lacks. */
    private static void worstOfTheMost() {
        TokenRounds x = of(6, 8, 3);
        for (int v = 0; v < 6; v++) {
            for (int bit = 1; bit < 16; bit *= 2) {
                x.put(v, bit << 4 | times(v, bit));
            }
            Check.due("half of all", x.node(v, 0), 4);
        }
        Check.due("by a path", x.gain(0), 24);
        Check.due("worst", x.gain(1), 24);
        Check.due("best", x.gain(2), 24);
        Check.due("foreseen", x.foreseen(), 1);
        // one full and five empty ones: worst, when the full one is at the end
        for (int n = 2; n <= 6; n++) {
            for (int k = 1; k <= 8; k++) {
                TokenRounds y = of(n, k, 3);
                for (int t = 0; t < k; t++) {
                    y.put(0, 1 << t);
                }
                Check.read(y, "star 0");
                Check.due(n + " nodes, " + k + " tokens: by a star", y.gain(0), (n - 1) * k);
                Check.due(n + " nodes, " + k + " tokens: worst", y.gain(1), k);
                Check.due(n + " nodes, " + k + " tokens: best", y.gain(2), (n - 1) * k);
            }
        }
    }

    /** A product in the field of 16: of unlike a the sums a times b are alike for b 0 alone. */
    private static int times(int a, int b) {
        int product = 0;
        for (int i = 0; i < 4; i++) {
            product ^= (b >> i & 1) == 1 ? a << i : 0;
        }
        for (int i = 6; i >= 4; i--) {
            product ^= (product >> i & 1) == 1 ? 0b10011 << i - 4 : 0;
        }
        return product;
    }

    /**
     * By turns, of two that sit beside each other, each tells a token just when it got the one ahead: tokens 7, 6, .. 0
     * come 7 rounds apart, from round 7 on, and 0 to the third node in round 64, the last one.
     */
    private static TokenRounds slow() {
        TokenRounds x = of(3, 8, 1);
        Check.read(x, "path 102");
        x.put(0, 1 << 7);
        for (int t = 7; t > 0; t--) {
            x.put(t % 2, 3 << t - 1);
        }
        return x;
    }

    private static void foreseenSixty() {
        TokenRounds x = slow();
        Check.due("65 rounds", x.foreseen(), NONE);
        x.go(3);
        Check.due("62 rounds", x.foreseen(), NONE);
        x.go(1);
        Check.due("61 rounds", x.foreseen(), NONE);
        x.go(1);
        Check.due("60 rounds", x.foreseen(), 60);
        x.go(1);
        Check.due("59 rounds", x.foreseen(), 59);
        x.undo();
        Check.due("60 rounds again", x.foreseen(), 60);
        x.undo();
        Check.due("61 rounds again", x.foreseen(), NONE);
        Check.due("61 gone", x.go(20) + x.go(20) + x.go(20), 60);
        Check.due("one does not know all", x.count(7), 2);
        Check.due("1 round", x.foreseen(), 1);
        Check.due("the last one", x.go(20), 1);
        Check.due("0 rounds", x.foreseen(), 0);
        Check.due("round", x.count(4), 65);
        Check.due("no round is left", x.go(1), NOT);
    }

    private static void foreseenByPlanAndDraw() {
        for (int n = 2; n <= 6; n++) {
            for (int manner = 0; manner < 4; manner++) {
                TokenRounds x = of(n, 2, manner);
                Check.read(x, "all;all");
                x.tell(3, 2);
                x.put(0, 1);
                x.put(n - 1, 2);
                x.seed(31 * n);
                int foreseen = x.foreseen();
                Check.due("nothing gone by it", x.count(4) + x.count(6) + x.node(0, 2), 2);
                Check.due("the draw stays", x.seed(31 * n), 31 * n);
                int gone = x.go(20);
                Check.due(n + " nodes, manner " + manner, foreseen, gone);
                Check.due("all know all", x.count(7), n);
                Check.due("foreseen then", x.foreseen(), 0);
            }
        }
        // behind round 0 node 1 sends the token once: whether 2 gets it then is told by the links of round 1
        TokenRounds x = of(3, 1, 0);
        Check.read(x, "path 012;path 021");
        x.put(0, 1);
        Check.due("by the links of the next round", x.foreseen(), 2);
        x.tell(3, 2);
        Check.due("by the same links twice", x.foreseen(), 2);
        Check.read(x, "path 012;path 102");
        x.tell(3, 1);
        Check.due("sent once, and lost", x.foreseen(), NONE);
    }

    private static String views(TokenRounds x, int j) {
        StringBuilder all = new StringBuilder();
        for (int v = 0; v < x.count(0); v++) {
            all.append(x.view(j, v));
        }
        return all.append(':').append(x.views(j)).toString();
    }

    /** The rounds that come count from the present one on: the ninth is the one 8 behind it. */
    private static void viewsOfNine() {
        TokenRounds x = of(4, 1, 0);
        Check.read(x, "all;star 1");
        x.tell(3, 8);
        for (int j = 0; j <= 8; j++) {
            Check.row("8 rounds of all: behind " + j, views(x, j), "0111:2");
        }
        Check.row("then a star: behind 9", views(x, 9), "0122:3");
        x.go(1);
        Check.row("from round 1: behind 7", views(x, 7), "0111:2");
        Check.row("from round 1: behind 8", views(x, 8), "0122:3");
        Check.row("from round 1: behind 9", views(x, 9), "0122:3");
        x.go(7);
        Check.row("from round 8: behind 0", views(x, 0), "0111:2");
        Check.row("from round 8: behind 1", views(x, 1), "0122:3");
        x.go(7);
        Check.row("from round 15: behind 1", views(x, 1), "0122:3");
        Check.row("from round 15, around to all: behind 2", views(x, 2), "0122:3");
        Check.row("from round 15, around to all: behind 9", views(x, 9), "0122:3");
        x.go(1);
        Check.row("from round 16: behind 8", views(x, 8), "0111:2");
        Check.row("from round 16: behind 9", views(x, 9), "0122:3");
    }

    private static void viewsAlike() {
        for (int n = 2; n <= 6; n++) {
            TokenRounds x = of(n, 1, 0);
            Check.read(x, "all");
            for (int j = 0; j <= 9; j++) {
                Check.row(n + " all linked: behind " + j, views(x, j), "0" + "1".repeat(n - 1) + ":2");
            }
            Check.read(x, "star " + (n - 1));
            if (n > 2) {
                Check.row(n + " by a star: behind 1", views(x, 1), "0" + "1".repeat(n - 2) + "2:3");
                Check.row(n + " by a star: behind 9", views(x, 9), "0" + "1".repeat(n - 2) + "2:3");
            }
            TokenRounds y = of(n, 1, 0);
            Check.row(n + " in a path: behind 9", views(y, 9), "012345".substring(0, n) + ":" + n);
        }
        // as many of each view, not just the same views: of those that 0 is not linked to 4 sees two, 5 one
        TokenRounds x = of(6, 1, 0);
        Check.read(x, "links 0-1,0-2,0-3,1-2,3-4,4-5");
        Check.row("one or two of a view", views(x, 1), "011123:4");
        Check.row("one or two of a view, behind 2", views(x, 2), "011234:5");
        // those once told apart stay so, whatever they see later
        Check.read(x, "path 012345;all");
        Check.row("told apart once", views(x, 2), "012223:4");
        Check.row("and for ever", views(x, 3), "012345:6");
    }

    // ---- the odds

    private static BigInteger[] odds(int n, int which, int c) {
        List<int[]> there = new ArrayList<>();
        for (int i = 0; i < pairs(n).size(); i++) {
            if ((which >> i & 1) == 1) {
                there.add(pairs(n).get(i));
            }
        }
        long[] joining = new long[there.size() + 1];
        for (int left = 0; left < 1 << there.size(); left++) {
            int[] part = {0, 1, 2, 3, 4, 5};
            for (int i = 0; i < there.size(); i++) {
                if ((left >> i & 1) == 1) {
                    int from = part[there.get(i)[0]];
                    int to = part[there.get(i)[1]];
                    for (int v = 0; v < n; v++) {
                        part[v] = part[v] == from ? to : part[v];
                    }
                }
            }
            boolean all = true;
            for (int v = 0; v < n; v++) {
                all &= part[v] == part[0];
            }
            joining[Integer.bitCount(left)] += all ? 1 : 0;
        }
        BigInteger above = BigInteger.ZERO;
        for (int left = 0; left <= there.size(); left++) {
            above = above.add(BigInteger.valueOf(joining[left]).multiply(BigInteger.valueOf(10 - c).pow(left))
                .multiply(BigInteger.valueOf(c).pow(there.size() - left)));
        }
        BigInteger below = BigInteger.TEN.pow(there.size());
        return new BigInteger[] {above.divide(above.gcd(below)), below.divide(above.gcd(below))};
    }

    private static void joinedBy(TokenRounds x, int n, int which) {
        for (int c = 0; c <= 10; c++) {
            BigInteger[] due = odds(n, which, c);
            Check.due(links(n, which) + " by " + c + ": above", x.joined(c, 0), due[0].longValueExact());
            Check.due(links(n, which) + " by " + c + ": below", x.joined(c, 1), due[1].longValueExact());
        }
        Check.due("none fails", x.joined(0, 0) * 10 + x.joined(0, 1), 11);
        Check.due("each fails", x.joined(10, 0) * 10 + x.joined(10, 1), 1);
    }

    private static void joinedOfAllNets() {
        for (int n = 2; n <= 5; n++) {
            for (int which = 1; which < 1 << pairs(n).size(); which += n == 5 ? 7 : 1) {
                TokenRounds x = of(n, 1, 0);
                if (Check.read(x, links(n, which)) == 1) {
                    joinedBy(x, n, which);
                }
            }
        }
    }

    private static void joinedOfMostLinks() {
        int all = (1 << 15) - 1;
        for (int but : new int[] {0, 1, 1 << 14, 0b100001, 0b111, 0b101010101010101 & all}) {
            TokenRounds x = of(6, 1, 0);
            if (but == 0) {
                Check.read(x, "all");
            } else {
                Check.due("six nodes without " + but, Check.read(x, links(6, all & ~but)), 1);
            }
            joinedBy(x, 6, all & ~but);
        }
        TokenRounds x = of(6, 1, 0);
        Check.read(x, "all;path 012345");
        x.go(1);
        Check.due("by the present round", x.joined(1, 1), 100000);
        Check.due("by the present round, above", x.joined(1, 0), 59049);
    }
}
