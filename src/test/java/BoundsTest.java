import java.util.TreeSet;

/** Each number of each call: the last one that is taken and the first that is not, on both sides, and those far off. */
public final class BoundsTest {
    private static final int BAD = TokenRounds.BAD, NONE = TokenRounds.NONE, INDEX = TokenRounds.INDEX,
            SIZE = TokenRounds.SIZE, FULL = TokenRounds.FULL;
    private static final int MIN = Integer.MIN_VALUE, MAX = Integer.MAX_VALUE;
    private static final TreeSet<Integer> NUMBERS = numbers();

    private interface Call {
        long with(TokenRounds x, int number);
    }

    public static void main(String[] args) {
        for (int n = 2; n <= 6; n++) {
            numbersOfNodes(n);
        }
        for (int k = 1; k <= 8; k++) {
            numbersOfSums(k);
        }
        for (int rank = 0; rank <= 8; rank++) {
            numbersOfItsSums(rank);
        }
        numbersOfQuestions();
        numbersOfDeeds();
        numbersOfSheets();
        for (int many = 0; many <= 24; many++) {
            numbersOfItems(many);
        }
        for (int many = 0; many <= 24; many += 4) {
            numbersOfCopies(many);
        }
        Check.end("BoundsTest");
    }

    /** All near 0, and what would be near it if it were cut to fewer bits. */
    private static TreeSet<Integer> numbers() {
        TreeSet<Integer> all = new TreeSet<>();
        for (int i = -140; i <= 300; i++) {
            all.add(i);
        }
        for (int base : new int[] {256, 1 << 15, 1 << 16, 1 << 24, MIN, MAX, MAX / 2, 1 << 30, -256, -65536}) {
            for (int i = -10; i <= 130; i++) {
                all.add(base + i);
            }
        }
        return all;
    }

    /** A number is taken from the least to the most, and answered as told below and above. */
    private static void range(String what, int least, int most, int below, int above, Call call) {
        for (int number : NUMBERS) {
            long got = call.with(made(), number);
            if (number < least) {
                Check.due(what + " " + number, got, below);
            } else if (number > most) {
                Check.due(what + " " + number, got, above);
            } else {
                Check.holds(what + " " + number + " is taken", got >= 0);
            }
        }
    }

    private static void badBeyond(String what, int least, int most, Call call) {
        range(what, least, most, BAD, BAD, call);
    }

    private static int n = 4;
    private static int k = 4;

    private static TokenRounds made() {
        TokenRounds x = new TokenRounds();
        x.tell(0, n);
        x.tell(1, k);
        return x;
    }

    /** A SHEET 0 of bytes, with so many items. */
    private static TokenRounds held(TokenRounds x, int many) {
        x.sheet(0, 0, many);
        return x;
    }

    private static void numbersOfNodes(int nodes) {
        n = nodes;
        String of = " of " + n + " nodes, node";
        badBeyond("put" + of, 0, n - 1, (x, v) -> x.put(v, 1));
        for (int what = 0; what < 5; what++) {
            int it = what;
            badBeyond("node, what " + what + of, 0, n - 1, (x, v) -> x.node(v, it));
        }
        range("sum" + of, 0, n - 1, BAD, BAD, (x, v) -> x.sum(v, 0) == NONE ? 1 : x.sum(v, 0));
        badBeyond("knows" + of, 0, n - 1, (x, v) -> x.knows(v, 0));
        badBeyond("sends by all" + of, 0, n - 1, (x, v) -> x.tell(2, 3) + x.sends(v));
        badBeyond("linked" + of, 0, n - 1, (x, v) -> x.linked(3, v));
        badBeyond("view" + of, 0, n - 1, (x, v) -> x.view(2, v));
        badBeyond("film" + of, 0, n - 1, (x, v) -> held(x, 0).film(v, 0, 0, 0));
        for (int items = 0; items <= 24; items++) {
            int many = items;
            // n items are taken from item i on
            range("could by " + n + " nodes of " + many + " items, from", 0, many - n, INDEX, INDEX,
                (x, i) -> held(x, many).could(0, 0, i));
        }
        n = 4;
    }

    private static void numbersOfSums(int tokens) {
        k = tokens;
        String of = " of " + k + " tokens, sum";
        badBeyond("put" + of, 1, (1 << k) - 1, (x, sum) -> x.put(0, sum));
        badBeyond("knows" + of, 0, (1 << k) - 1, (x, sum) -> x.knows(0, sum));
        range("could" + of.replace("sum", "item"), 0, k - 1, TokenRounds.NOT, TokenRounds.NOT,
            (x, token) -> couldWith(x, token, token == 9 ? 10 : token));
        Check.holds("could with 9" + of, couldWith(made(), 9, 9) >= 0);
        k = 4;
    }

    private static long couldWith(TokenRounds x, int name, int item) {
        x.sheet(1, 2, 4);
        for (int i = 0; i < 4; i++) {
            x.item(1, 2, i, i == Math.floorMod(name, 4) ? item : 9);
        }
        return x.could(1, 2, 0);
    }

    private static void numbersOfItsSums(int rank) {
        k = 8;
        range("its sums of " + rank + ", sum", 0, rank - 1, BAD, NONE, (x, j) -> {
            for (int t = 0; t < rank; t++) {
                x.put(2, 1 << t);
            }
            return x.sum(2, j);
        });
        for (int items = Math.max(0, rank - 2); items <= 24; items++) {
            int many = items;
            range("film of " + rank + " to " + many + " items, from", 0, many - rank, INDEX, INDEX, (x, i) -> {
                for (int t = 0; t < rank; t++) {
                    x.put(2, 1 << t);
                }
                return held(x, many).film(2, 0, 0, i);
            });
        }
        k = 4;
    }

    private static void numbersOfQuestions() {
        badBeyond("node, what", 0, 4, (x, what) -> x.node(3, what));
        range("linked, round", 0, MAX, BAD, BAD, (x, r) -> x.linked(r, 3));
        badBeyond("count", 0, 8, (x, what) -> x.count(what));
        badBeyond("gain", 0, 2, (x, what) -> x.gain(what));
        badBeyond("views behind", 0, 9, (x, j) -> x.views(j));
        badBeyond("view behind", 0, 9, (x, j) -> x.view(j, 3));
        badBeyond("joined by", 0, 10, (x, c) -> x.joined(c, 0));
        badBeyond("joined by, below", 0, 10, (x, c) -> x.joined(c, 1));
        badBeyond("joined, what", 0, 1, (x, what) -> x.joined(4, what));
    }

    private static void numbersOfDeeds() {
        badBeyond("go", 1, 20, (x, m) -> x.go(m));
        for (int m = 1; m <= 20; m++) {
            TokenRounds x = made();
            Check.due("rounds gone by go(" + m + ")", x.go(m) * 100 + x.count(4), m * 101);
        }
        int[][] ends = {{2, 6, 4}, {1, 8, 4}, {0, 3, 0}, {1, 9, 1}};
        for (int what = 0; what < 4; what++) {
            int it = what;
            int is = ends[what][2];
            badBeyond("tell(" + what + ")", ends[what][0], ends[what][1], (x, v) -> v == is ? 0 : x.tell(it, v));
            Check.due("tell(" + what + ") as it is", made().tell(what, is), TokenRounds.NOT);
            for (int v = ends[what][0]; v <= ends[what][1]; v++) {
                TokenRounds x = made();
                Check.due("tell(" + what + ", " + v + ")", x.tell(what, v), v == is ? TokenRounds.NOT : is);
                Check.due("count(" + what + ") behind it", x.count(what), v);
            }
        }
        badBeyond("tell, what", 0, 3, (x, what) -> x.tell(what, 2));
        badBeyond("type", 32, 126, (x, letter) -> x.type(letter));
        range("type behind 89", 32, 126, BAD, BAD, (x, letter) -> {
            Check.type(x, " ".repeat(89));
            return x.type(letter);
        });
        range("type behind 90, the bad ones", 32, 126, BAD, BAD, (x, letter) -> {
            Check.type(x, " ".repeat(90));
            long got = x.type(letter);
            return got == FULL ? 0 : got == BAD ? BAD : SIZE;
        });
        badBeyond("drift", 1, 40, (x, turns) -> x.drift(turns));
        range("seed", 0, MAX, BAD, BAD, (x, v) -> x.seed(v));
        range("seed, and it is so", 0, MAX, BAD, BAD, (x, v) -> x.seed(v) == 1 && x.seed(0) == v ? 0 : BAD);
    }

    private static void numbersOfSheets() {
        badBeyond("could, sheet", 0, 3, (x, s) -> of(x, s).could(s, 0, 0));
        badBeyond("could, lane", 0, 3, (x, lane) -> ofLane(x, lane).could(1, lane, 0));
        badBeyond("film, sheet", 0, 3, (x, s) -> of(x, s).film(0, s, 0, 0));
        badBeyond("film, lane", 0, 3, (x, lane) -> ofLane(x, lane).film(0, 1, lane, 0));
        badBeyond("sheet, sheet", 0, 3, (x, s) -> x.sheet(s, 0, 0));
        badBeyond("sheet, lane", 0, 3, (x, lane) -> x.sheet(0, lane, 0));
        for (int lane = 0; lane < 4; lane++) {
            int as = lane;
            range("sheet of lane " + lane + ", items", 0, 24, SIZE, BAD, (x, many) -> x.sheet(2, as, many));
            for (int many = 0; many <= 24; many++) {
                TokenRounds x = made();
                Check.due("a sheet of " + many, x.sheet(2, lane, many), many);
                Check.due("a sheet of " + many + " dropped", x.drop(2), many);
            }
        }
        badBeyond("drop", 0, 3, (x, s) -> of(x, s).drop(s));
        badBeyond("item, sheet", 0, 3, (x, s) -> of(x, s).item(s, 0, 0, 1));
        badBeyond("item, lane", 0, 3, (x, lane) -> ofLane(x, lane).item(1, lane, 0, 1));
        badBeyond("copy from", 0, 3, (x, s) -> of(of(x, s), 0).copy(s, 0, 0, 0, 1));
        badBeyond("copy to", 0, 3, (x, s) -> of(of(x, s), 0).copy(0, 0, s, 0, 1));
    }

    private static TokenRounds of(TokenRounds x, int sheet) {
        x.sheet(sheet, 0, 4);
        return x;
    }

    private static TokenRounds ofLane(TokenRounds x, int lane) {
        x.sheet(1, lane, 4);
        return x;
    }

    private static void numbersOfItems(int many) {
        range("item of " + many, 0, many - 1, INDEX, INDEX, (x, i) -> held(x, many).item(0, 0, i, 1));
        range("copy none of " + many + ", from", 0, many, INDEX, INDEX, (x, i) -> held(x, many).copy(0, i, 0, 0, 0));
        range("copy none of " + many + ", to", 0, many, INDEX, INDEX, (x, j) -> held(x, many).copy(0, 0, 0, j, 0));
        range("copy of " + many + ", as many as", 0, many, INDEX, INDEX, (x, n) -> held(x, many).copy(0, 0, 0, 0, n));
        range("film of none to " + many + ", from", 0, many, INDEX, INDEX, (x, i) -> held(x, many).film(0, 0, 0, i));
    }

    private static void numbersOfCopies(int many) {
        for (int n = 1; n <= many; n += 3) {
            int as = n;
            range("copy " + n + " of " + many + ", from", 0, many - n, INDEX, INDEX,
                (x, i) -> held(x, many).copy(0, i, 0, 0, as));
            range("copy " + n + " of " + many + ", to", 0, many - n, INDEX, INDEX,
                (x, j) -> held(x, many).copy(0, 0, 0, j, as));
        }
        for (int other = 0; other <= 24; other += 6) {
            int there = other;
            range("copy of " + many + " to " + there + ", as many as", 0, Math.min(many, there), INDEX, INDEX, (x, n) -> {
                x.sheet(1, 0, there);
                return held(x, many).copy(0, 0, 1, 0, n);
            });
            range("copy of " + there + " to " + many + ", as many as", 0, Math.min(many, there), INDEX, INDEX, (x, n) -> {
                x.sheet(1, 0, there);
                return held(x, many).copy(1, 0, 0, 0, n);
            });
        }
    }
}
