/** Promise 1: a new object. */
public final class NewTest {
    public static void main(String[] args) {
        TokenRounds x = new TokenRounds();
        long[] counts = {4, 4, 0, 1, 0, 1, 0, 0, 0};
        for (int what = 0; what < counts.length; what++) {
            Check.due("new: count(" + what + ")", x.count(what), counts[what]);
        }
        int[] path = {2, 5, 10, 4};
        for (int v = 0; v < 4; v++) {
            Check.due("new: linked(0, " + v + ")", x.linked(0, v), path[v]);
            Check.due("new: node(" + v + ", 0)", x.node(v, 0), 0);
            Check.due("new: node(" + v + ", 2)", x.node(v, 2), 0);
        }
        Check.due("new: undo()", x.undo(), TokenRounds.NONE);
        Check.due("new: restore()", x.restore(), TokenRounds.NONE);
        for (int s = 0; s < 4; s++) {
            Check.due("new: drop(" + s + ")", x.drop(s), TokenRounds.NULL);
        }
        Check.due("new: the draw", x.seed(7), 1);
        Check.due("new: the tape", x.type('a'), 1);
        Check.end("NewTest");
    }
}
