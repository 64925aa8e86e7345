/** Promises 23 to 28: sheets. */
public final class SheetsTest {
    private static final int BAD = TokenRounds.BAD, NOT = TokenRounds.NOT, NULL = TokenRounds.NULL,
            CAST = TokenRounds.CAST, INDEX = TokenRounds.INDEX, SIZE = TokenRounds.SIZE;

    public static void main(String[] args) {
        couldByManners();
        couldByTurnsAlone();
        couldRefuses();
        couldTakesItemsWhole();
        filmTakesSums();
        filmRefuses();
        sheetsAreNew();
        dropsTell();
        itemsAreCut();
        itemsRefuse();
        copies();
        copiesRefuse();
        Check.end("SheetsTest");
    }

    private static void fill(TokenRounds x, int sheet, int lane, long... items) {
        x.sheet(sheet, lane, items.length);
        for (int i = 0; i < items.length; i++) {
            x.item(sheet, lane, i, items[i]);
        }
    }

    private static void couldByManners() {
        TokenRounds x = new TokenRounds();
        x.put(0, 1);
        x.put(1, 1);
        x.put(1, 2);
        x.put(2, 12);
        fill(x, 0, 0, 0, 0, 9, 9);
        Check.due("both", x.could(0, 0, 0), 3);
        x.go(1);
        fill(x, 1, 3, 9, 9, 9, 1, 9, 9, 9, 9, 9, 1, 9, 9);
        // round 1: 0 sent its own, 1 sends 1 by either; 2 sends by neither but 0 came to it
        fill(x, 2, 1, 9, 1, 0, 9);
        fill(x, 3, 2, 9, 1, 9, 9);
        Check.due("least", x.could(2, 1, 0), 1);
        Check.due("turns", x.could(3, 2, 0), 2);
        Check.due("turns from 8 on", x.could(1, 3, 8), 2);
        Check.due("neither", x.could(1, 3, 4), 0);
        x.tell(2, 3);
        Check.due("whatever the manner is", x.could(2, 1, 0), 1);
        Check.due("nothing sent by asking", x.node(1, 2), 1);
    }

    private static void couldByTurnsAlone() {
        TokenRounds x = new TokenRounds();
        x.tell(0, 2);
        x.tell(1, 8);
        x.tell(2, 1);
        x.put(0, 128);
        x.put(0, 64);
        fill(x, 0, 0, 7, 9, 6, 9, 9, 9);
        Check.due("least in round 0", x.could(0, 0, 2), 1);
        Check.due("turns in round 0", x.could(0, 0, 4), 2);
        Check.due("neither in round 0", x.could(0, 0, 0), 0);
        x.go(7);
        Check.due("turns in round 7", x.could(0, 0, 0), 2);
        fill(x, 1, 0, 7, 6);
        Check.due("another node's", x.could(1, 0, 0), 0);
    }

    private static void couldRefuses() {
        TokenRounds x = new TokenRounds();
        Check.due("could(-1, 0, 0)", x.could(-1, 0, 0), BAD);
        Check.due("could(4, 0, 0)", x.could(4, 0, 0), BAD);
        Check.due("could(0, -1, 0)", x.could(0, -1, 0), BAD);
        Check.due("could(0, 4, 0)", x.could(0, 4, 0), BAD);
        Check.due("could of nothing", x.could(0, 0, -1), NULL);
        fill(x, 0, 2, 9, 9, 9, 4, 9, 9, 9, 9);
        Check.due("could by another lane", x.could(0, 1, -1), CAST);
        Check.due("could from -1", x.could(0, 2, -1), INDEX);
        Check.due("could from min", x.could(0, 2, Integer.MIN_VALUE), INDEX);
        Check.due("could from 5 of 8", x.could(0, 2, 5), INDEX);
        Check.due("could from 8 of 8", x.could(0, 2, 8), INDEX);
        Check.due("could from max", x.could(0, 2, Integer.MAX_VALUE), INDEX);
        Check.due("could by 4 of 4 tokens", x.could(0, 2, 0), NOT);
        Check.due("could from 4", x.could(0, 2, 4), 3);
        x.item(0, 2, 3, 8);
        Check.due("could by 8", x.could(0, 2, 0), NOT);
        x.item(0, 2, 3, 10);
        Check.due("could by 10", x.could(0, 2, 0), NOT);
        x.item(0, 2, 3, -1);
        Check.due("could by -1", x.could(0, 2, 0), NOT);
        x.item(0, 2, 3, 3);
        Check.due("could by 3", x.could(0, 2, 0), 0);
        x.tell(1, 8);
        x.item(0, 2, 3, 7);
        Check.due("could by 7 of 8 tokens", x.could(0, 2, 0), 0);
        fill(x, 1, 0, 77, 9, 9, 9, 9, 77);
        Check.due("what stands ahead and behind is free", x.could(1, 0, 1), 3);
    }

    private static void couldTakesItemsWhole() {
        TokenRounds x = new TokenRounds();
        x.put(0, 1);
        fill(x, 0, 3, 1L << 32, 9, 9, 9);
        Check.due("2^32 is no token", x.could(0, 3, 0), NOT);
        fill(x, 0, 3, 0, 9, 9, (1L << 32) + 9);
        Check.due("2^32 + 9 is not 9", x.could(0, 3, 0), NOT);
        fill(x, 0, 2, 1L << 32, 9, 9, (1L << 32) + 9);
        Check.due("ints are cut", x.could(0, 2, 0), 3);
    }

    private static void filmTakesSums() {
        TokenRounds x = new TokenRounds();
        x.put(1, 4);
        x.put(1, 3);
        fill(x, 0, 0, 9, 9, 9, 9, 9);
        Check.due("film", x.film(1, 0, 0, 1), 2);
        Check.holds("9 4 3 9", holds(x, 0, 0, 0, 9, 4, 3, 9));
        Check.holds("4 3 9 9", holds(x, 0, 0, 1, 4, 3, 9, 9));
        x.tell(1, 8);
        for (int t = 0; t < 8; t++) {
            x.put(2, 1 << t);
        }
        fill(x, 1, 3, 9, 9, 9, 9, 9, 9, 9, 9, 9);
        Check.due("film of eight", x.film(2, 1, 3, 1), 8);
        Check.due("8, no token, ahead of 4 2 1", x.could(1, 3, 5), NOT);
        x.item(1, 3, 5, 9);
        Check.holds("9 4 2 1", holds(x, 1, 3, 5, 9, 4, 2, 1));
        Check.due("nothing to take at the end", x.film(3, 1, 3, 9), 0);
    }

    private static void filmRefuses() {
        TokenRounds x = new TokenRounds();
        x.put(0, 1);
        x.put(0, 2);
        Check.due("film(4, 0, 0, 0)", x.film(4, 0, 0, 0), BAD);
        Check.due("film(-1, 0, 0, 0)", x.film(-1, 0, 0, 0), BAD);
        Check.due("film(0, 4, 0, 0)", x.film(0, 4, 0, 0), BAD);
        Check.due("film(0, -1, 0, 0)", x.film(0, -1, 0, 0), BAD);
        Check.due("film(0, 0, 4, 0)", x.film(0, 0, 4, 0), BAD);
        Check.due("film(0, 0, -1, 0)", x.film(0, 0, -1, 0), BAD);
        Check.due("film to nothing", x.film(0, 0, 0, -1), NULL);
        fill(x, 0, 1, 9, 9, 9, 9, 9);
        Check.due("film to another lane", x.film(0, 0, 0, -1), CAST);
        Check.due("film from -1", x.film(0, 0, 1, -1), INDEX);
        Check.due("film from 4 of 5", x.film(0, 0, 1, 4), INDEX);
        Check.due("film from max", x.film(0, 0, 1, Integer.MAX_VALUE), INDEX);
        Check.due("nothing came", x.could(0, 1, 1), 0);
        Check.due("film of none from 5", x.film(1, 0, 1, 5), 0);
        Check.due("film of none from 6", x.film(1, 0, 1, 6), INDEX);
        Check.due("film of none from -1", x.film(1, 0, 1, -1), INDEX);
        Check.due("film from 3", x.film(0, 0, 1, 3), 2);
    }

    private static void sheetsAreNew() {
        TokenRounds x = new TokenRounds();
        for (int lane = 0; lane < 4; lane++) {
            Check.due("sheet(" + lane + ", " + lane + ", 24)", x.sheet(lane, lane, 24), 24);
        }
        Check.due("sheet(0, 0, 0)", x.sheet(0, 0, 0), 0);
        Check.due("sheet(0, 0, 25)", x.sheet(0, 0, 25), BAD);
        Check.due("sheet(0, 0, max)", x.sheet(0, 0, Integer.MAX_VALUE), BAD);
        Check.due("sheet(0, 0, -1)", x.sheet(0, 0, -1), SIZE);
        Check.due("sheet(0, 0, min)", x.sheet(0, 0, Integer.MIN_VALUE), SIZE);
        Check.due("sheet(4, 0, -1)", x.sheet(4, 0, -1), BAD);
        Check.due("sheet(-1, 0, 1)", x.sheet(-1, 0, 1), BAD);
        Check.due("sheet(0, 4, -1)", x.sheet(0, 4, -1), BAD);
        Check.due("sheet(0, -1, 1)", x.sheet(0, -1, 1), BAD);
        Check.due("what a refused one left", x.drop(0), 0);
        x.put(0, 1);
        x.put(1, 1);
        x.put(2, 1);
        x.put(3, 1);
        fill(x, 1, 1, 9, 9, 9, 9);
        x.sheet(1, 1, 4);
        Check.due("a new row is of zeros", x.could(1, 1, 0), 3);
        x.sheet(1, 2, 4);
        Check.due("another lane then", x.could(1, 1, 0), CAST);
    }

    private static void dropsTell() {
        TokenRounds x = new TokenRounds();
        Check.due("drop(-1)", x.drop(-1), BAD);
        Check.due("drop(4)", x.drop(4), BAD);
        Check.due("drop(3), nothing there,", x.drop(3), NULL);
        x.sheet(3, 3, 17);
        Check.due("drop(3)", x.drop(3), 17);
        Check.due("drop(3) again", x.drop(3), NULL);
        Check.due("item of nothing", x.item(3, 3, 0, 1), NULL);
    }

    private static void itemsAreCut() {
        long[] over = {1L << 8, 1L << 16, 1L << 32};
        for (int lane = 0; lane < 3; lane++) {
            TokenRounds x = new TokenRounds();
            x.tell(0, 2);
            x.put(0, 1);
            fill(x, 0, lane, over[lane], 9 - over[lane] * 5);
            Check.due("lane " + lane + ": lowest bits", x.could(0, lane, 0), 3);
            x.item(0, lane, 0, over[lane] / 2);
            Check.due("lane " + lane + ": the sign is there", x.could(0, lane, 0), NOT);
            x.sheet(1, lane + 1, 2);
            x.item(1, lane + 1, 0, over[lane]);
            Check.due("lane " + (lane + 1) + ": whole", x.could(1, lane + 1, 0), NOT);
        }
    }

    private static void itemsRefuse() {
        TokenRounds x = new TokenRounds();
        Check.due("item(4, 0, 0, 0)", x.item(4, 0, 0, 0), BAD);
        Check.due("item(-1, 0, 0, 0)", x.item(-1, 0, 0, 0), BAD);
        Check.due("item(0, 4, 0, 0)", x.item(0, 4, 0, 0), BAD);
        Check.due("item(0, -1, 0, 0)", x.item(0, -1, 0, 0), BAD);
        Check.due("item of nothing", x.item(0, 0, -1, 0), NULL);
        x.sheet(0, 3, 2);
        Check.due("item of another lane", x.item(0, 2, -1, 0), CAST);
        Check.due("item -1", x.item(0, 3, -1, 0), INDEX);
        Check.due("item 2 of 2", x.item(0, 3, 2, 0), INDEX);
        Check.due("item max", x.item(0, 3, Integer.MAX_VALUE, 0), INDEX);
        Check.due("item min", x.item(0, 3, Integer.MIN_VALUE, 0), INDEX);
        Check.due("item 1", x.item(0, 3, 1, Long.MIN_VALUE), 1);
        x.sheet(0, 0, 0);
        Check.due("item 0 of none", x.item(0, 0, 0, 0), INDEX);
    }

    /** Whether a sheet has these from item i on: what nodes send by LEAST that have just the tokens told. */
    private static boolean holds(TokenRounds x, int sheet, int lane, int i, int... items) {
        x.image();
        x.tell(1, 1);
        x.tell(1, 8);
        for (int v = 0; v < items.length; v++) {
            if (items[v] != 9) {
                x.put(v, 1 << items[v]);
            }
        }
        int could = x.could(sheet, lane, i);
        x.restore();
        return could > 0 && (could & 1) == 1;
    }

    private static void copies() {
        TokenRounds x = new TokenRounds();
        fill(x, 0, 1, 0, 1, 2, 3, 0, 0);
        Check.due("copy on itself, up", x.copy(0, 0, 0, 1, 4), 4);
        Check.holds("0 0 1 2 3 0", holds(x, 0, 1, 1, 0, 1, 2, 3) && holds(x, 0, 1, 2, 1, 2, 3, 0));
        Check.holds("the first stays", holds(x, 0, 1, 0, 0, 0, 1, 2));
        Check.due("copy on itself, down", x.copy(0, 2, 0, 0, 3), 3);
        Check.holds("1 2 3 2 3 0", holds(x, 0, 1, 0, 1, 2, 3, 2) && holds(x, 0, 1, 2, 3, 2, 3, 0));
        fill(x, 1, 1, 9, 9, 9, 9, 9);
        Check.due("copy to another", x.copy(0, 1, 1, 3, 2), 2);
        Check.holds("9 9 9 2 3", holds(x, 1, 1, 1, 9, 9, 2, 3) && holds(x, 1, 1, 0, 9, 9, 9, 2));
        Check.holds("the source stays", holds(x, 0, 1, 0, 1, 2, 3, 2));
        Check.due("copy all", x.copy(1, 0, 0, 0, 5), 5);
        Check.holds("9 9 9 2 3 0", holds(x, 0, 1, 1, 9, 9, 2, 3) && holds(x, 0, 1, 2, 9, 2, 3, 0));
        Check.due("copy none at the ends", x.copy(0, 6, 1, 5, 0), 0);
    }

    private static void copiesRefuse() {
        TokenRounds x = new TokenRounds();
        fill(x, 0, 1, 1, 2, 3, 0, 0, 0);
        Check.due("copy from -1", x.copy(-1, 0, 0, 0, 1), BAD);
        Check.due("copy from 4", x.copy(4, 0, 1, 0, 1), BAD);
        Check.due("copy to -1", x.copy(0, 0, -1, 0, 1), BAD);
        Check.due("copy to 4", x.copy(1, 0, 4, 0, 1), BAD);
        Check.due("copy from nothing", x.copy(1, 0, 0, 0, -1), NULL);
        Check.due("copy to nothing", x.copy(0, 0, 1, 0, -1), NULL);
        Check.due("copy of nothing on itself", x.copy(1, 0, 1, 0, 0), NULL);
        x.sheet(1, 2, 6);
        Check.due("copy to another lane", x.copy(0, 0, 1, 0, -1), CAST);
        Check.due("copy of none to another lane", x.copy(0, 0, 1, 0, 0), CAST);
        x.sheet(2, 1, 3);
        int[][] beyond = {{-1, 0, 1}, {0, -1, 1}, {0, 0, -1}, {0, 0, 4}, {4, 0, 3}, {0, 1, 3}, {7, 0, 0}, {0, 4, 0},
            {-1, 0, 0}, {0, -1, 0}, {1, 0, Integer.MAX_VALUE}, {Integer.MAX_VALUE, 0, 1}, {0, Integer.MAX_VALUE, 2},
            {0, 0, Integer.MIN_VALUE}, {Integer.MAX_VALUE, Integer.MAX_VALUE, Integer.MAX_VALUE}};
        for (int[] c : beyond) {
            Check.due("copy(0, " + c[0] + ", 2, " + c[1] + ", " + c[2] + ")", x.copy(0, c[0], 2, c[1], c[2]), INDEX);
        }
        Check.due("copy none from 6 to 3", x.copy(0, 6, 2, 3, 0), 0);
        Check.due("copy from 3 to 0", x.copy(0, 3, 2, 0, 3), 3);
    }
}
