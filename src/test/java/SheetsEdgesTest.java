/** Promises 23 to 28 at their edges: lowest bits with a sign, windows of items, copies on the same sheet, what stays. */
public final class SheetsEdgesTest {
    private static final int NOT = TokenRounds.NOT, NULL = TokenRounds.NULL, CAST = TokenRounds.CAST,
            INDEX = TokenRounds.INDEX;
    /** What an item is, if it is no token and not 9. */
    private static final int OTHER = -1;

    public static void main(String[] args) {
        lowestBits();
        bitsOfEachLane();
        filmsOfEachLane();
        filmsToTheLast();
        newRowsAreEmpty();
        copiesOfAllPlaces();
        copiesToOthers();
        couldByEachNode();
        couldByNine();
        couldOfAllRows();
        sheetsStay();
        Check.end("SheetsEdgesTest");
    }

    /** What item i is, found by telling how many tokens it takes; sheet 3 is written over. */
    private static int value(TokenRounds x, int sheet, int lane, int i) {
        x.image();
        x.tell(0, 5);
        x.tell(0, 2);
        x.sheet(3, lane, 2);
        x.item(3, lane, 1, 9);
        x.copy(sheet, i, 3, 0, 1);
        int value = OTHER;
        for (int k = 8; k >= 1; k--) {
            x.tell(1, k);
            value = x.could(3, lane, 0) == NOT ? value : k - 1;
        }
        value = value == 0 && x.could(3, lane, 0) == 3 ? 9 : value;
        x.restore();
        return value;
    }

    private static int due(long item) {
        return item >= 0 && item < 8 || item == 9 ? (int) item : OTHER;
    }

    private static long cut(int lane, long v) {
        return lane == 0 ? (byte) v : lane == 1 ? (short) v : lane == 2 ? (int) v : v;
    }

    private static void lowestBits() {
        for (int lane = 0; lane < 4; lane++) {
            for (int first = 0; first < 24; first += 8) {
                TokenRounds x = new TokenRounds();
                x.sheet(0, lane, 24);
                for (int i = 0; i < 24; i++) {
                    Check.due("item " + i, x.item(0, lane, i, i < 12 ? i : 9 - i), 1);
                }
                for (int i = first; i < first + 8; i++) {
                    Check.due("lane " + lane + ", item " + i, value(x, 0, lane, i), due(i < 12 ? i : 9 - i));
                }
            }
        }
    }

    private static void bitsOfEachLane() {
        int[] bits = {8, 16, 32, 64};
        for (int lane = 0; lane < 4; lane++) {
            for (int bit = 3; bit < 64; bit++) {
                TokenRounds x = again(lane);
                for (long low : new long[] {0, 5, 9}) {
                    long v = low | 1L << bit;
                    x.item(1, lane, 0, v);
                    int want = bit < bits[lane] && (bit != 3 || low != 9) ? OTHER : (int) low;
                    Check.due("lane " + lane + ": item of bit " + bit + " and " + low, value(x, 1, lane, 0), want);
                }
            }
            TokenRounds x = again(lane);
            for (long v : new long[] {Long.MIN_VALUE, Long.MAX_VALUE, -1, -256, -65536, -1L << 32, 256, 65536, 1L << 32}) {
                x.item(1, lane, 0, v + 7);
                Check.due("lane " + lane + ": item " + v + " and 7", value(x, 1, lane, 0), due(cut(lane, v + 7)));
            }
        }
    }

    private static TokenRounds again(int lane) {
        TokenRounds x = new TokenRounds();
        x.sheet(1, lane, 1);
        return x;
    }

    /** A SUM of TOKEN 7 has no place in a byte but with its sign. */
    private static void filmsOfEachLane() {
        for (int lane = 0; lane < 4; lane++) {
            for (int sum = 1; sum < 256; sum += sum < 10 ? 1 : 35) {
                TokenRounds x = EdgesTest.of(3, 8, 0);
                x.put(2, sum);
                x.sheet(0, lane, 3);
                Check.due("film of one", x.film(2, 0, lane, 1), 1);
                Check.due("lane " + lane + ": film of " + sum, value(x, 0, lane, 1), due(sum));
                Check.due("ahead of it", value(x, 0, lane, 0), 0);
                Check.due("behind it", value(x, 0, lane, 2), 0);
            }
        }
        // -1 of a byte is what 255 leaves: as a short it would be 255; both are no token
        TokenRounds x = EdgesTest.of(2, 8, 0);
        x.put(0, 255);
        x.sheet(0, 0, 2);
        x.film(0, 0, 0, 0);
        Check.due("255 as a byte", x.could(0, 0, 0), NOT);
    }

    private static void filmsToTheLast() {
        for (int rank = 0; rank <= 8; rank++) {
            TokenRounds x = EdgesTest.of(2, 8, 0);
            for (int t = 0; t < rank; t++) {
                x.put(1, 1 << t);
            }
            x.sheet(0, 2, 24);
            for (int i = 0; i < 24; i++) {
                x.item(0, 2, i, 9);
            }
            Check.due("one too far", x.film(1, 0, 2, 25 - rank), INDEX);
            for (int i = 0; i < 24; i += 5) {
                Check.due("nothing came of it", value(x, 0, 2, i), 9);
            }
            Check.due("nothing came of it", value(x, 0, 2, 23), 9);
            Check.due("just to the end", x.film(1, 0, 2, 24 - rank), rank);
            for (int j = 0; j < rank; j++) {
                Check.due("item " + j + " of " + rank, value(x, 0, 2, 24 - rank + j), due(1 << rank - 1 - j));
            }
            if (rank < 8) {
                Check.due("ahead of them", value(x, 0, 2, 23 - rank), 9);
            }
        }
    }

    private static void newRowsAreEmpty() {
        for (int lane = 0; lane < 4; lane++) {
            TokenRounds x = new TokenRounds();
            x.sheet(0, lane, 24);
            for (int i = 0; i < 24; i++) {
                x.item(0, lane, i, 5);
            }
            x.sheet(0, lane, 3);
            Check.due("item 3 of a shorter one", x.item(0, lane, 3, 5), INDEX);
            x.sheet(0, lane, 24);
            for (int i = 0; i < 24; i += i < 3 ? 1 : 4) {
                Check.due("item " + i + " of a new row", value(x, 0, lane, i), 0);
            }
            Check.due("the last item of a new row", value(x, 0, lane, 23), 0);
            x.item(0, lane, 2, 6);
            Check.due("dropped", x.drop(0), 24);
            Check.due("nothing then", x.item(0, lane, 2, 6), NULL);
            x.sheet(0, 3 - lane, 4);
            Check.due("another lane then", x.item(0, lane, 2, 6), CAST);
            Check.due("an empty item then", value(x, 0, 3 - lane, 2), 0);
        }
    }

    private static void copiesOfAllPlaces() {
        for (int lane = 0; lane < 4; lane++) {
            for (int i = 0; i <= 6; i++) {
                for (int j = 0; j <= 6; j++) {
                    for (int n = 0; n <= 6 - Math.max(i, j); n++) {
                        TokenRounds x = new TokenRounds();
                        int[] row = {1, 2, 3, 4, 9, 6};
                        x.sheet(0, lane, 6);
                        for (int at = 0; at < 6; at++) {
                            x.item(0, lane, at, row[at]);
                        }
                        String what = "copy(0, " + i + ", 0, " + j + ", " + n + ")";
                        Check.due(what, x.copy(0, i, 0, j, n), n);
                        for (int at = 0; at < 6; at++) {
                            boolean came = at >= j && at < j + n;
                            Check.due(what + ": item " + at, value(x, 0, lane, at), came ? row[at - j + i] : row[at]);
                        }
                    }
                }
            }
        }
    }

    private static void copiesToOthers() {
        TokenRounds x = new TokenRounds();
        x.sheet(0, 1, 24);
        x.sheet(1, 1, 24);
        for (int i = 0; i < 24; i++) {
            x.item(0, 1, i, i % 8);
            x.item(1, 1, i, 9);
        }
        Check.due("the last to the first", x.copy(0, 23, 1, 0, 1), 1);
        Check.due("the first to the last", x.copy(0, 1, 1, 23, 1), 1);
        Check.due("it came", value(x, 1, 1, 0), 7);
        Check.due("it came", value(x, 1, 1, 23), 1);
        Check.due("next to it", value(x, 1, 1, 1) + value(x, 1, 1, 22), 18);
        Check.due("all", x.copy(0, 0, 1, 0, 24), 24);
        for (int i = 0; i < 24; i += 5) {
            Check.due("item " + i, value(x, 1, 1, i), i % 8);
            Check.due("item " + i + " stays", value(x, 0, 1, i), i % 8);
        }
        x.item(0, 1, 5, 9);
        Check.due("another row", value(x, 1, 1, 5), 5);
        x.sheet(2, 1, 0);
        Check.due("none of none", x.copy(2, 0, 2, 0, 0), 0);
        Check.due("none to none", x.copy(0, 24, 2, 0, 0), 0);
        Check.due("one to none", x.copy(0, 0, 2, 0, 1), INDEX);
    }

    // ---- COULD

    /** Each node counts, no more items than nodes do. */
    private static void couldByEachNode() {
        for (int n = 2; n <= 6; n++) {
            for (int off = 0; off <= 2; off++) {
                TokenRounds x = EdgesTest.of(n, 8, 3);
                x.sheet(0, 0, n + 2);
                for (int v = 0; v < n; v++) {
                    x.put(v, v % 2 == 0 ? 1 : 2);
                    x.item(0, 0, v + off, v % 2 == 0 ? 0 : 1);
                }
                for (int i = 0; i < n + 2; i++) {
                    if (i < off || i >= off + n) {
                        x.item(0, 0, i, 77);
                    }
                }
                Check.due(n + " nodes from " + off + ": by least", x.could(0, 0, off), 1);
                for (int v = 0; v < n; v++) {
                    x.item(0, 0, v + off, 5);
                    Check.due(n + " nodes: another item of " + v, x.could(0, 0, off), 0);
                    x.item(0, 0, v + off, 9);
                    // of two or three nodes just the other ones have token 0, whose turn it is
                    Check.due(n + " nodes: nothing of " + v, x.could(0, 0, off), n < 4 && v == 1 ? 2 : 0);
                    x.item(0, 0, v + off, 8);
                    Check.due(n + " nodes: no item of " + v, x.could(0, 0, off), NOT);
                    x.item(0, 0, v + off, v % 2 == 0 ? 0 : 1);
                }
                for (int i = 0; i <= 2; i++) {
                    if (i != off) {
                        Check.due(n + " nodes: one beside", x.could(0, 0, i), NOT);
                    }
                }
            }
        }
    }

    private static void couldByNine() {
        for (int n = 2; n <= 6; n++) {
            TokenRounds x = EdgesTest.of(n, 2, 2);
            x.sheet(0, 3, n);
            for (int v = 0; v < n; v++) {
                x.item(0, 3, v, 9);
                x.put(v, 3);
            }
            Check.due("nothing told, nothing sent", x.could(0, 3, 0), 3);
            x.put(n - 1, 2);
            Check.due("the last one sends by either", x.could(0, 3, 0), 0);
            x.item(0, 3, n - 1, 0);
            Check.due("token 0 by either", x.could(0, 3, 0), 3);
            x.item(0, 3, n - 1, 1);
            Check.due("token 1 by neither", x.could(0, 3, 0), 0);
            x.tell(2, 0);
            x.go(1);
            Check.due("round 1: what came, too", x.could(0, 3, 0), 0);
            x.item(0, 3, n - 2, 0);
            Check.due("by least: 0 of the one, 1 of the other", x.could(0, 3, 0), 1);
            x.item(0, 3, n - 2, 1);
            Check.due("by turns: 1 of both", x.could(0, 3, 0), 2);
        }
    }

    /** All rows of two nodes by three tokens in four rounds: each manner by each row but the one. */
    private static void couldOfAllRows() {
        for (int told = 0; told < 64; told++) {
            TokenRounds x = EdgesTest.of(2, 3, 1);
            for (int t = 0; t < 3; t++) {
                for (int v = 0; v < 2; v++) {
                    if ((told >> 3 * v + t & 1) == 1) {
                        x.put(v, 1 << t);
                    }
                }
            }
            for (int r = 0; r < 4 && (r == 0 || x.go(1) == 1); r++) {
                x.sheet(0, 2, 2);
                for (int a : new int[] {0, 1, 2, 9}) {
                    for (int b : new int[] {0, 1, 2, 9}) {
                        x.item(0, 2, 0, a);
                        x.item(0, 2, 1, b);
                        boolean least = item(x.node(0, 1)) == a && item(x.node(1, 1)) == b;
                        boolean turns = item(x.node(0, 1) & 1 << r % 3) == a && item(x.node(1, 1) & 1 << r % 3) == b;
                        Check.due("told " + told + ", round " + r + ", row " + a + " " + b, x.could(0, 2, 0),
                            (least ? 1 : 0) + (turns ? 2 : 0));
                    }
                }
            }
        }
    }

    private static int item(int tokens) {
        return tokens == 0 ? 9 : Integer.numberOfTrailingZeros(tokens);
    }

    /** SHEETS stay, whatever is told, undone, restored. */
    private static void sheetsStay() {
        TokenRounds x = new TokenRounds();
        x.image();
        x.tell(3, 4);
        x.sheet(0, 0, 2);
        x.item(0, 0, 1, 6);
        x.sheet(1, 3, 0);
        x.undo();
        x.restore();
        x.tell(0, 6);
        x.tell(1, 1);
        x.drift(40);
        x.undo();
        Check.read(x, "all");
        Check.due("item 1 stays", value(x, 0, 0, 1), 6);
        Check.due("two items", x.item(0, 0, 2, 1), INDEX);
        Check.due("their lane", x.item(0, 1, 0, 1), CAST);
        Check.due("none stays none", x.drop(1), 0);
        x.drop(0);
        x.undo();
        x.restore();
        Check.due("what was dropped stays nothing", x.drop(0), NULL);
    }
}
