import java.util.Random;

/** Any call, with any numbers, in any state: it ends, it throws nothing, and its answer is one that the document has. */
public final class AnyCallTest {
    private static final int RUNS = 400, CALLS = 512;
    private static final int[] FAR = {Integer.MIN_VALUE, Integer.MIN_VALUE + 1, Integer.MAX_VALUE, Integer.MAX_VALUE - 1,
        1 << 30, 1 << 16, 1 << 15, 512, 256, 255, 128, 127, 126, 91, 90, 64, 41, 40, 33, 32, 31, -2, -8, -9, -31, -32, -33};
    private static final String LETTERS = "  path ring star links all 0123450123;,-";

    private final Random chance;
    private final TokenRounds x = new TokenRounds();

    private AnyCallTest(int seed) {
        chance = new Random(seed);
    }

    public static void main(String[] args) {
        for (int seed = 0; seed < RUNS; seed++) {
            AnyCallTest test = new AnyCallTest(seed);
            for (int i = 0; i < CALLS; i++) {
                int which = test.chance.nextInt(27);
                long got = test.call(which);
                boolean fault = which == 15 && got <= -20 && got >= -110;
                boolean answer = got >= -4 || got <= -11 && got >= -14;
                Check.holds("run " + seed + ", call " + i + " of kind " + which + " answers " + got, fault || answer);
            }
        }
        Check.end("AnyCallTest");
    }

    private int any() {
        switch (chance.nextInt(8)) {
            case 0:
                return FAR[chance.nextInt(FAR.length)];
            case 1:
                return chance.nextInt();
            case 2:
                return chance.nextInt(27) - 1;
            default:
                return chance.nextInt(7) - (chance.nextInt(9) == 0 ? 1 : 0);
        }
    }

    private long call(int which) {
        if (which < 9) {
            return callOfNodes(which);
        }
        return which < 18 ? callOfDeeds(which) : callOfSheets(which);
    }

    private long callOfNodes(int which) {
        switch (which) {
            case 0:
                return x.put(any(), any());
            case 1:
                return x.node(any(), any());
            case 2:
                return x.sum(any(), any());
            case 3:
                return x.knows(any(), any());
            case 4:
                return x.sends(any());
            case 5:
                return x.linked(any(), any());
            case 6:
                return x.count(any());
            case 7:
                return x.go(any());
            default:
                return x.gain(any());
        }
    }

    private long callOfDeeds(int which) {
        switch (which) {
            case 9:
                return x.foreseen();
            case 10:
                return x.views(any());
            case 11:
                return x.view(any(), any());
            case 12:
                return x.joined(any(), any());
            case 13:
                return x.tell(any(), any());
            case 14:
                return x.type(chance.nextInt(5) == 0 ? any() : LETTERS.charAt(chance.nextInt(LETTERS.length())));
            case 15:
                return x.read();
            case 16:
                return x.drift(any());
            default:
                return x.undo();
        }
    }

    private long callOfSheets(int which) {
        switch (which) {
            case 18:
                return x.seed(any());
            case 19:
                return x.image();
            case 20:
                return x.restore();
            case 21:
                return x.could(any(), any(), any());
            case 22:
                return x.film(any(), any(), any(), any());
            case 23:
                return x.sheet(any(), any(), any());
            case 24:
                return chance.nextInt(3) == 0 ? x.drop(any()) : x.sheet(chance.nextInt(4), chance.nextInt(2), 24);
            case 25:
                return x.item(any(), any(), any(), chance.nextInt(3) == 0 ? chance.nextLong() : any());
            default:
                return x.copy(any(), any(), any(), any(), any());
        }
    }
}
