/**
 * Tokens through a net that is another one each round: what each node sends and knows, plans of links, what a round
 * would bring, views, odds, and what is done, undone and kept. The document is ../shared/DOC.md; the words in capitals
 * are its own.
 */
public final class TokenRounds {
    public static final int BAD = -1, NOT = -2, FULL = -3, NONE = -4, NULL = -11, CAST = -12, INDEX = -13, SIZE = -14;

    private static final int LEAST_NODES = 2, MOST_NODES = 6, MOST_TOKENS = 8, MOST_NETS = 8, MOST_SPAN = 9;
    private static final int LEAST = 0, TURNS = 1, SUM = 2, ALL = 3;
    private static final int MOST_UNDONE = 6, MOST_GONE = 20, MOST_FORESEEN = 60, MOST_VIEWED = 9, MOST_TURNS = 40;
    private static final int WHOLE_ODDS = 10, MOST_LETTERS = 90, FIRST_FAULT = -20;
    private static final int SHEETS = 4, LANES = 4, MOST_ITEMS = 24, NOTHING_SENT = 9;

    private final Net now = new Net();
    private final Past past = new Past();
    private final Net keptNow = new Net();
    private final Past keptPast = new Past();
    private final Net mind = new Net();
    private final Round round = new Round();
    private final Gains gains = new Gains();
    private final Views seen = new Views();
    private final Odds odds = new Odds();
    private final Tape tape = new Tape();
    private final Row[] rows = new Row[SHEETS];
    private boolean kept;

    public TokenRounds() {
        for (int s = 0; s < SHEETS; s++) {
            rows[s] = new Row();
        }
    }

    // ---- 1 nodes, plans

    public int put(int v, int sum) {
        if (!now.hasNode(v) || !now.isSum(sum) || sum == 0) {
            return BAD;
        }
        if (now.spaces[v].rest(sum) == 0) {
            return NOT;
        }
        past.keep(now);
        now.spaces[v].add(sum);
        return now.spaces[v].rank();
    }

    public int node(int v, int what) {
        if (!now.hasNode(v)) {
            return BAD;
        }
        switch (what) {
            case 0:
                return now.spaces[v].rank();
            case 1:
                return now.spaces[v].told();
            case 2:
                return now.gone[v];
            case 3:
                return now.neighbours(now.round, v);
            case 4:
                round.prepare(now, now.manner);
                return round.growth(now, v, now.neighbours(now.round, v));
            default:
                return BAD;
        }
    }

    public int sum(int v, int j) {
        if (!now.hasNode(v) || j < 0) {
            return BAD;
        }
        return j < now.spaces[v].rank() ? now.spaces[v].row(j) : NONE;
    }

    public int knows(int v, int sum) {
        if (!now.hasNode(v) || !now.isSum(sum)) {
            return BAD;
        }
        return now.spaces[v].rest(sum) == 0 ? 1 : 0;
    }

    public int sends(int v) {
        if (!now.hasNode(v)) {
            return BAD;
        }
        round.prepare(now, now.manner);
        if (now.manner == ALL) {
            return round.many[v];
        }
        return round.many[v] == 0 ? NONE : round.only(v);
    }

    public int linked(int r, int v) {
        return r < 0 || !now.hasNode(v) ? BAD : now.neighbours(r, v);
    }

    public int count(int what) {
        switch (what) {
            case 0:
                return now.nodes;
            case 1:
                return now.tokens;
            case 2:
                return now.manner;
            case 3:
                return now.span;
            case 4:
                return now.round;
            case 5:
                return now.plan.nets;
            case 6:
                return now.ranks();
            case 7:
                return now.full();
            case 8:
                return past.many;
            default:
                return BAD;
        }
    }

    // ---- 2 rounds

    public int go(int m) {
        if (m < 1 || m > MOST_GONE) {
            return BAD;
        }
        if (now.allFull()) {
            return NOT;
        }
        past.keep(now);
        return round.passUntilFull(now, m);
    }

    public int gain(int what) {
        if (what < 0 || what > 2) {
            return BAD;
        }
        round.prepare(now, now.manner);
        if (what == 1) {
            gains.findGrowths(now, round);
            return gains.worst(now.nodes);
        }
        return what == 0 ? gains.present(now, round) : gains.best(now, round);
    }

    public int foreseen() {
        mind.take(now);
        int rounds = round.passUntilFull(mind, MOST_FORESEEN);
        return mind.allFull() ? rounds : NONE;
    }

    public int views(int j) {
        return j < 0 || j > MOST_VIEWED ? BAD : seen.behind(now, j);
    }

    public int view(int j, int v) {
        if (j < 0 || j > MOST_VIEWED || !now.hasNode(v)) {
            return BAD;
        }
        seen.behind(now, j);
        return seen.views[v];
    }

    public long joined(int c, int what) {
        if (c < 0 || c > WHOLE_ODDS || what < 0 || what > 1) {
            return BAD;
        }
        odds.reckon(now, c);
        return what == 0 ? odds.above : odds.below;
    }

    // ---- 3 what is done

    public int tell(int what, int v) {
        if (!now.mayBecome(what, v)) {
            return BAD;
        }
        int was = now.setting(what);
        if (was == v) {
            return NOT;
        }
        past.keep(now);
        now.become(what, v);
        return was;
    }

    public int type(int letter) {
        if (letter < 32 || letter > 126) {
            return BAD;
        }
        return tape.append((char) letter) ? tape.many : FULL;
    }

    public int read() {
        int answer = tape.parse(now.nodes);
        tape.empty();
        if (answer > 0) {
            past.keep(now);
            now.plan.take(tape.plan);
        }
        return answer;
    }

    public int drift(int n) {
        if (n < 1 || n > MOST_TURNS) {
            return BAD;
        }
        for (int i = 0; i < n; i++) {
            past.keep(now);
            turn();
        }
        return now.ranks();
    }

    public int undo() {
        return past.back(now) ? past.many : NONE;
    }

    public int seed(int v) {
        if (v < 0) {
            return BAD;
        }
        int was = now.draw;
        now.draw = v;
        return was;
    }

    public int image() {
        keptNow.take(now);
        keptPast.take(past);
        kept = true;
        return 1;
    }

    public int restore() {
        if (!kept) {
            return NONE;
        }
        now.take(keptNow);
        past.take(keptPast);
        return 1;
    }

    // ---- sheets

    public int could(int sheet, int lane, int i) {
        int refused = refusal(sheet, lane);
        if (refused != 0) {
            return refused;
        }
        Row row = rows[sheet];
        if (!row.covers(i, now.nodes)) {
            return INDEX;
        }
        for (int v = 0; v < now.nodes; v++) {
            long sent = row.items[i + v];
            if ((sent < 0 || sent >= now.tokens) && sent != NOTHING_SENT) {
                return NOT;
            }
        }
        return (sentBy(LEAST, row, i) ? 1 : 0) + (sentBy(TURNS, row, i) ? 2 : 0);
    }

    public int film(int v, int sheet, int lane, int i) {
        int refused = now.hasNode(v) ? refusal(sheet, lane) : BAD;
        if (refused != 0) {
            return refused;
        }
        int many = now.spaces[v].rank();
        if (!rows[sheet].covers(i, many)) {
            return INDEX;
        }
        for (int j = 0; j < many; j++) {
            rows[sheet].set(i + j, now.spaces[v].row(j));
        }
        return many;
    }

    public int sheet(int sheet, int lane, int n) {
        if (!isSheet(sheet) || !isLane(lane) || n > MOST_ITEMS) {
            return BAD;
        }
        if (n < 0) {
            return SIZE;
        }
        rows[sheet].renew(lane, n);
        return n;
    }

    public int drop(int sheet) {
        if (!isSheet(sheet)) {
            return BAD;
        }
        if (rows[sheet].isNothing()) {
            return NULL;
        }
        return rows[sheet].lose();
    }

    public int item(int sheet, int lane, int i, long v) {
        int refused = refusal(sheet, lane);
        if (refused != 0) {
            return refused;
        }
        if (!rows[sheet].covers(i, 1)) {
            return INDEX;
        }
        rows[sheet].set(i, v);
        return 1;
    }

    public int copy(int from, int i, int to, int j, int n) {
        if (!isSheet(from) || !isSheet(to)) {
            return BAD;
        }
        Row source = rows[from];
        Row target = rows[to];
        if (source.isNothing() || target.isNothing()) {
            return NULL;
        }
        if (source.lane != target.lane) {
            return CAST;
        }
        if (!source.covers(i, n) || !target.covers(j, n)) {
            return INDEX;
        }
        System.arraycopy(source.items, i, target.items, j, n);
        return n;
    }

    // ---- what the calls share

    /** One turn of a DRIFT. */
    private void turn() {
        now.draw = changed(now.draw);
        int x = drawn(now.draw);
        switch (x % 4) {
            case 0:
                round.pass(now);
                break;
            case 3:
                now.manner = x / 4 % 4;
                break;
            default:
                now.spaces[leftOver(x / 4, now.nodes)].add(1 << leftOver(x / 64, now.tokens));
                break;
        }
    }

    /** Whether a MANNER would send now what a row tells from item i on, which is known to be there. */
    private boolean sentBy(int manner, Row row, int i) {
        round.prepare(now, manner);
        for (int v = 0; v < now.nodes; v++) {
            long told = row.items[i + v];
            int sent = told == NOTHING_SENT ? 0 : 1 << (int) told;
            if (sent != round.only(v)) {
                return false;
            }
        }
        return true;
    }

    /** BAD, NULL or CAST, if a SHEET can't be taken as a row of a LANE; 0 if it can. */
    private int refusal(int sheet, int lane) {
        if (!isSheet(sheet) || !isLane(lane)) {
            return BAD;
        }
        if (rows[sheet].isNothing()) {
            return NULL;
        }
        return rows[sheet].lane == lane ? 0 : CAST;
    }

    private static boolean isSheet(int sheet) {
        return sheet >= 0 && sheet < SHEETS;
    }

    private static boolean isLane(int lane) {
        return lane >= 0 && lane < LANES;
    }

    /** THE DRAW changed; the wrap of int leaves the lowest 31 bits as they are. */
    private static int changed(int draw) {
        return draw * 1103515245 + 12345 & 0x7fffffff;
    }

    /** x of THE DRAW. */
    private static int drawn(int draw) {
        return draw >>> 16;
    }

    /** a left over by b, from 0 to b less 1. */
    private static int leftOver(int a, int b) {
        return b < 1 ? 0 : Math.floorMod(a, b);
    }

    private static boolean has(int set, int member) {
        return (set >> member & 1) == 1;
    }

    /** All that a NODE KNOWS, as ITS SUMS. */
    private static final class Space {
        /** The SUM at t has t as its greatest TOKEN, which no other one has; 0: there is none. */
        private final int[] sums = new int[MOST_TOKENS];

        void empty() {
            for (int t = 0; t < MOST_TOKENS; t++) {
                sums[t] = 0;
            }
        }

        void take(Space other) {
            System.arraycopy(other.sums, 0, sums, 0, MOST_TOKENS);
        }

        int rank() {
            int many = 0;
            for (int t = 0; t < MOST_TOKENS; t++) {
                many += sums[t] == 0 ? 0 : 1;
            }
            return many;
        }

        /** What ITS SUMS leave of a SUM: 0, if it is KNOWN. */
        int rest(int sum) {
            int left = sum;
            for (int t = 0; t < MOST_TOKENS; t++) {
                if (has(sum, t)) {
                    left ^= sums[t];
                }
            }
            return left;
        }

        /** Gets a SUM: whether RANK grew. */
        boolean add(int sum) {
            int left = rest(sum);
            int top = greatest(left);
            if (top < 0) {
                return false;
            }
            for (int t = 0; t < MOST_TOKENS; t++) {
                if (has(sums[t], top)) {
                    sums[t] ^= left;
                }
            }
            sums[top] = left;
            return true;
        }

        /** ITS SUM j, the one of the greatest TOKEN first; 0: there is none. */
        int row(int j) {
            int ahead = j;
            for (int t = MOST_TOKENS - 1; t >= 0; t--) {
                if (sums[t] != 0 && ahead-- == 0) {
                    return sums[t];
                }
            }
            return 0;
        }

        /** ITS SUMS j added, for each bit j of a number. */
        int mixed(int bits) {
            int mix = 0;
            int left = bits;
            for (int t = MOST_TOKENS - 1; t >= 0; t--) {
                if (sums[t] != 0) {
                    mix ^= has(left, 0) ? sums[t] : 0;
                    left >>= 1;
                }
            }
            return mix;
        }

        /** The TOKENS that it TELLS: a TOKEN that is KNOWN alone is one of ITS SUMS itself. */
        int told() {
            int set = 0;
            for (int t = 0; t < MOST_TOKENS; t++) {
                if (sums[t] == 1 << t) {
                    set |= sums[t];
                }
            }
            return set;
        }

        private static int greatest(int sum) {
            for (int t = MOST_TOKENS - 1; t >= 0; t--) {
                if (has(sum, t)) {
                    return t;
                }
            }
            return -1;
        }
    }

    /** Sets of LINKS, one behind the other. */
    private static final class Plan {
        private final int[] links = new int[MOST_NETS * MOST_NODES];
        private int nets;

        void take(Plan other) {
            System.arraycopy(other.links, 0, links, 0, links.length);
            nets = other.nets;
        }

        /** Puts a set without any LINK at a place; it is the last one then. */
        void begin(int net) {
            for (int v = 0; v < MOST_NODES; v++) {
                set(net, v, 0);
            }
            nets = net + 1;
        }

        void path(int net, int nodes) {
            for (int v = 1; v < nodes; v++) {
                link(net, v - 1, v);
            }
        }

        void link(int net, int a, int b) {
            set(net, a, of(net, a) | 1 << b);
            set(net, b, of(net, b) | 1 << a);
        }

        /** The NODES to which a NODE is LINKED by a set. */
        int of(int net, int v) {
            int at = net * MOST_NODES + v;
            return at >= 0 && at < links.length ? links[at] : 0;
        }

        /** Whether all NODES are JOINED by a set. */
        boolean joins(int net, int nodes) {
            int reached = 1;
            for (int step = 1; step < nodes; step++) {
                for (int v = 0; v < nodes; v++) {
                    reached |= has(reached, v) ? of(net, v) : 0;
                }
            }
            return reached == (1 << nodes) - 1;
        }

        private void set(int net, int v, int others) {
            int at = net * MOST_NODES + v;
            if (at >= 0 && at < links.length) {
                links[at] = others;
            }
        }
    }

    /** All that can be UNDONE and that an IMAGE keeps. */
    private static final class Net {
        private final Plan plan = new Plan();
        private final Space[] spaces = new Space[MOST_NODES];
        /** The TOKENS that a NODE has SENT by LEAST. */
        private final int[] gone = new int[MOST_NODES];
        private int nodes = 4;
        private int tokens = 4;
        private int manner = LEAST;
        private int span = 1;
        private int round = 0;
        private int draw = 1;

        Net() {
            for (int v = 0; v < MOST_NODES; v++) {
                spaces[v] = new Space();
            }
            plan.begin(0);
            plan.path(0, nodes);
        }

        void take(Net other) {
            plan.take(other.plan);
            for (int v = 0; v < MOST_NODES; v++) {
                spaces[v].take(other.spaces[v]);
            }
            System.arraycopy(other.gone, 0, gone, 0, MOST_NODES);
            nodes = other.nodes;
            tokens = other.tokens;
            manner = other.manner;
            span = other.span;
            round = other.round;
            draw = other.draw;
        }

        boolean hasNode(int v) {
            return v >= 0 && v < nodes;
        }

        boolean isSum(int sum) {
            return sum >= 0 && sum < 1 << tokens;
        }

        /** The NODES to which a NODE is LINKED in a ROUND. */
        int neighbours(int r, int v) {
            int turn = span < 1 ? 0 : r / span;
            return plan.of(leftOver(turn, plan.nets), v);
        }

        int ranks() {
            int together = 0;
            for (int v = 0; v < nodes; v++) {
                together += spaces[v].rank();
            }
            return together;
        }

        /** How many NODES KNOW all. */
        int full() {
            int many = 0;
            for (int v = 0; v < nodes; v++) {
                many += spaces[v].rank() == tokens ? 1 : 0;
            }
            return many;
        }

        boolean allFull() {
            return full() == nodes;
        }

        boolean mayBecome(int what, int v) {
            switch (what) {
                case 0:
                    return v >= LEAST_NODES && v <= MOST_NODES;
                case 1:
                    return v >= 1 && v <= MOST_TOKENS;
                case 2:
                    return v >= LEAST && v <= ALL;
                case 3:
                    return v >= 1 && v <= MOST_SPAN;
                default:
                    return false;
            }
        }

        int setting(int what) {
            switch (what) {
                case 0:
                    return nodes;
                case 1:
                    return tokens;
                case 2:
                    return manner;
                default:
                    return span;
            }
        }

        void become(int what, int v) {
            switch (what) {
                case 0:
                    nodes = v;
                    plan.begin(0);
                    plan.path(0, nodes);
                    forget();
                    break;
                case 1:
                    tokens = v;
                    forget();
                    break;
                case 2:
                    manner = v;
                    break;
                default:
                    span = v;
                    break;
            }
        }

        private void forget() {
            for (int v = 0; v < MOST_NODES; v++) {
                spaces[v].empty();
                gone[v] = 0;
            }
            round = 0;
        }
    }

    /** The latest states that can come back. */
    private static final class Past {
        private final Net[] states = new Net[MOST_UNDONE];
        private int many;

        Past() {
            for (int i = 0; i < MOST_UNDONE; i++) {
                states[i] = new Net();
            }
        }

        void keep(Net net) {
            if (many >= MOST_UNDONE) {
                loseOldest();
            }
            states[many].take(net);
            many++;
        }

        /** Brings the latest state back: whether there was one. */
        boolean back(Net net) {
            if (many < 1) {
                return false;
            }
            many--;
            net.take(states[many]);
            return true;
        }

        void take(Past other) {
            for (int i = 0; i < other.many; i++) {
                states[i].take(other.states[i]);
            }
            many = other.many;
        }

        /** The oldest state's room goes behind the others, to be used again. */
        private void loseOldest() {
            Net oldest = states[0];
            for (int i = 1; i < MOST_UNDONE; i++) {
                states[i - 1] = states[i];
            }
            states[MOST_UNDONE - 1] = oldest;
            many = MOST_UNDONE - 1;
        }
    }

    /** What each NODE SENDS in a ROUND, and the ROUND itself. */
    private static final class Round {
        private final int[] sums = new int[MOST_NODES * MOST_TOKENS];
        private final int[] many = new int[MOST_NODES];
        private final Space trial = new Space();
        private int draw;

        /** Finds what each NODE would SEND now by a MANNER, and what THE DRAW would be then; the net stays. */
        void prepare(Net net, int manner) {
            draw = net.draw;
            for (int v = 0; v < net.nodes; v++) {
                many[v] = 0;
                if (manner == ALL) {
                    sendAll(net.spaces[v], v);
                } else {
                    send(v, chosen(net, manner, v));
                }
            }
        }

        /** The first SUM that a NODE SENDS; 0: nothing. */
        int only(int v) {
            return many[v] == 0 ? 0 : sums[v * MOST_TOKENS];
        }

        /** By how much a NODE's RANK would grow, if it got all that a set of NODES SENDS. */
        int growth(Net net, int v, int senders) {
            trial.take(net.spaces[v]);
            return deliver(net, trial, senders);
        }

        void pass(Net net) {
            prepare(net, net.manner);
            net.draw = draw;
            for (int v = 0; v < net.nodes; v++) {
                net.gone[v] |= net.manner == LEAST ? only(v) : 0;
                deliver(net, net.spaces[v], net.neighbours(net.round, v));
            }
            // far beyond what is promised, but a number of a round must not turn negative
            net.round = net.round + 1 & 0x7fffffff;
        }

        /** Passes ROUNDS, but no more when all NODES KNOW all: how many. */
        int passUntilFull(Net net, int most) {
            int passed = 0;
            for (int i = 0; i < most && !net.allFull(); i++) {
                pass(net);
                passed++;
            }
            return passed;
        }

        /** What a NODE SENDS by LEAST, TURNS, SUM; 0: nothing. */
        private int chosen(Net net, int manner, int v) {
            Space space = net.spaces[v];
            if (manner == LEAST) {
                int left = space.told() & ~net.gone[v];
                return left & -left;
            }
            if (manner == TURNS) {
                return space.told() & 1 << leftOver(net.round, net.tokens);
            }
            if (manner != SUM || space.rank() == 0) {
                return 0;
            }
            draw = changed(draw);
            return space.mixed(drawn(draw));
        }

        private void sendAll(Space space, int v) {
            for (int t = 0; t < MOST_TOKENS; t++) {
                send(v, space.sums[t]);
            }
        }

        private void send(int v, int sum) {
            if (sum != 0 && many[v] < MOST_TOKENS) {
                sums[v * MOST_TOKENS + many[v]] = sum;
                many[v]++;
            }
        }

        /** Brings a space all that a set of NODES SENDS: by how much its RANK grew. */
        private int deliver(Net net, Space space, int senders) {
            int lack = net.tokens - space.rank();
            int grown = 0;
            for (int u = 0; u < net.nodes; u++) {
                int sent = has(senders, u) ? many[u] : 0;
                for (int i = 0; i < sent && grown < lack; i++) {
                    grown += space.add(sums[u * MOST_TOKENS + i]) ? 1 : 0;
                }
            }
            return grown;
        }
    }

    /** What a ROUND would bring by other LINKS. */
    private static final class Gains {
        private static final int SETS = 1 << MOST_NODES;
        /** By how much each NODE's RANK would grow by each set of NODES to which it is LINKED. */
        private final int[] growths = new int[MOST_NODES * SETS];
        private final int[] degrees = new int[MOST_NODES];
        private final int[] tree = new int[MOST_NODES];

        int present(Net net, Round round) {
            int together = 0;
            for (int v = 0; v < net.nodes; v++) {
                together += round.growth(net, v, net.neighbours(net.round, v));
            }
            return together;
        }

        int best(Net net, Round round) {
            int together = 0;
            for (int v = 0; v < net.nodes; v++) {
                together += round.growth(net, v, (1 << net.nodes) - 1 ^ 1 << v);
            }
            return together;
        }

        /** One LINK less never brings more: so the least is that of a tree, and each tree has a code of its own. */
        int worst(int nodes) {
            int codes = 1;
            for (int i = 2; i < nodes; i++) {
                codes *= nodes;
            }
            int least = MOST_NODES * MOST_TOKENS;
            for (int code = 0; code < codes; code++) {
                grow(code, nodes);
                least = Math.min(least, byTree(nodes));
            }
            return least;
        }

        /** What WORST looks up: it would ask for the same sets in many trees. */
        void findGrowths(Net net, Round round) {
            for (int v = 0; v < net.nodes; v++) {
                for (int set = 1; set < 1 << net.nodes; set++) {
                    if (!has(set, v)) {
                        growths[v * SETS + set] = round.growth(net, v, set);
                    }
                }
            }
        }

        /** The tree of a code by Pruefer: its figures tell what the least leaf left is linked to, each time. */
        private void grow(int code, int nodes) {
            countDegrees(code, nodes);
            int left = code;
            for (int i = 2; i < nodes; i++) {
                int leaf = leafBehind(-1, nodes);
                int stem = leftOver(left, nodes);
                left /= nodes < 1 ? 1 : nodes;
                connect(leaf, stem);
            }
            int leaf = leafBehind(-1, nodes);
            connect(leaf, leafBehind(leaf, nodes));
        }

        private void countDegrees(int code, int nodes) {
            for (int v = 0; v < nodes; v++) {
                degrees[v] = 1;
                tree[v] = 0;
            }
            int left = code;
            for (int i = 2; i < nodes; i++) {
                degrees[leftOver(left, nodes)]++;
                left /= nodes < 1 ? 1 : nodes;
            }
        }

        private int leafBehind(int place, int nodes) {
            for (int v = place + 1; v < nodes; v++) {
                if (degrees[v] == 1) {
                    return v;
                }
            }
            return -1;
        }

        private void connect(int a, int b) {
            if (a >= 0 && b >= 0) {
                tree[a] |= 1 << b;
                tree[b] |= 1 << a;
                degrees[a]--;
                degrees[b]--;
            }
        }

        private int byTree(int nodes) {
            int together = 0;
            for (int v = 0; v < nodes; v++) {
                together += growths[v * SETS + tree[v]];
            }
            return together;
        }
    }

    /** Which NODES can't be told apart by what they have seen. */
    private static final class Views {
        private final int[] views = new int[MOST_NODES];
        private final int[] next = new int[MOST_NODES];

        /** Finds the VIEWS behind some ROUNDS: how many there are. */
        int behind(Net net, int rounds) {
            for (int v = 0; v < net.nodes; v++) {
                views[v] = v == 0 ? 0 : 1;
            }
            int many = 2;
            for (int i = 0; i < rounds; i++) {
                many = part(net, net.round + i);
            }
            return many;
        }

        /** VIEWS behind one more ROUND, numbered in the order of their least NODES. */
        private int part(Net net, int r) {
            int many = 0;
            for (int v = 0; v < net.nodes; v++) {
                int like = leastLike(net, r, v);
                next[v] = like == v ? many++ : next[like];
            }
            System.arraycopy(next, 0, views, 0, net.nodes);
            return many;
        }

        private int leastLike(Net net, int r, int v) {
            for (int u = 0; u < v; u++) {
                if (views[u] == views[v] && seeAlike(net, net.neighbours(r, u), net.neighbours(r, v))) {
                    return u;
                }
            }
            return v;
        }

        /** Whether of two sets of NODES as many have each VIEW. */
        private boolean seeAlike(Net net, int some, int others) {
            for (int view = 0; view < net.nodes; view++) {
                if (having(net, view, some) != having(net, view, others)) {
                    return false;
                }
            }
            return true;
        }

        private int having(Net net, int view, int set) {
            int many = 0;
            for (int u = 0; u < net.nodes; u++) {
                many += has(set, u) && views[u] == view ? 1 : 0;
            }
            return many;
        }
    }

    /** How likely all NODES are JOINED, if LINKS fail. */
    private static final class Odds {
        /** For each set of NODES with NODE 0: how likely the LINKS within join it, in 10ths to the power of how many. */
        private final long[] whole = new long[1 << MOST_NODES];
        private long above;
        private long below;

        void reckon(Net net, int c) {
            int all = (1 << net.nodes) - 1;
            for (int set = 1; set <= all; set += 2) {
                whole[set] = power(WHOLE_ODDS, within(net, set)) - parted(net, set, c);
            }
            above = whole[all];
            below = power(WHOLE_ODDS, within(net, all));
            shorten();
        }

        /** How likely a set is not joined: for each part that NODE 0 may be joined to, what leads out of it fails. */
        private long parted(Net net, int set, int c) {
            long together = 0;
            for (int part = 1; part < set; part += 2) {
                if ((part & ~set) == 0) {
                    int rest = set & ~part;
                    int out = within(net, set) - within(net, part) - within(net, rest);
                    together += whole[part] * power(WHOLE_ODDS, within(net, rest)) * power(c, out);
                }
            }
            return together;
        }

        /** How many LINKS of the present ROUND are within a set of NODES. */
        private static int within(Net net, int set) {
            int ends = 0;
            for (int v = 0; v < net.nodes; v++) {
                ends += has(set, v) ? Integer.bitCount(net.neighbours(net.round, v) & set) : 0;
            }
            return ends / 2;
        }

        private static long power(int base, int times) {
            long product = 1;
            for (int i = 0; i < times; i++) {
                product *= base;
            }
            return product;
        }

        private void shorten() {
            long common = below;
            long other = above;
            for (int i = 0; i < 1000 && other > 0; i++) {
                long rest = common % other;
                common = other;
                other = rest;
            }
            if (common > 1) {
                above /= common;
                below /= common;
            }
        }
    }

    /** THE TAPE, and the PLAN that it tells. */
    private static final class Tape {
        private static final int END = -1;
        private final char[] letters = new char[MOST_LETTERS];
        private final Plan plan = new Plan();
        private int many;
        private int place;
        private int nodes;

        boolean append(char letter) {
            if (many < 0 || many >= MOST_LETTERS) {
                return false;
            }
            letters[many] = letter;
            many++;
            return true;
        }

        void empty() {
            many = 0;
        }

        /** Reads all as a TEXT: how many NETS, or the answer of a FAULT, which stands at the place come to then. */
        int parse(int n) {
            nodes = n;
            place = 0;
            for (int net = 0; net < MOST_NETS; net++) {
                plan.begin(net);
                if (!isNet(net)) {
                    return FIRST_FAULT - place;
                }
                int behind = ahead();
                if (behind == END) {
                    return plan.nets;
                }
                if (behind != ';') {
                    return FIRST_FAULT - place;
                }
                place++;
            }
            ahead();
            return FIRST_FAULT - place;
        }

        /** The letter behind blanks, which are passed. */
        private int ahead() {
            while (place < many && letters[place] == ' ') {
                place++;
            }
            return place < many ? letters[place] : END;
        }

        private boolean isNet(int net) {
            ahead();
            int start = place;
            while (place < many && letters[place] >= 'a' && letters[place] <= 'z') {
                place++;
            }
            if (isName(start, "path")) {
                return isRow(net, false);
            }
            if (isName(start, "ring")) {
                return isRow(net, true);
            }
            if (isName(start, "star")) {
                return isStar(net);
            }
            if (isName(start, "links")) {
                return isLinks(net);
            }
            if (isName(start, "all")) {
                for (int v = 0; v < nodes; v++) {
                    linkToAll(net, v);
                }
                return true;
            }
            place = start;
            return false;
        }

        /** Whether the letters from a place up to the present one are a name. */
        private boolean isName(int start, String name) {
            if (place - start != name.length()) {
                return false;
            }
            for (int i = 0; i < name.length(); i++) {
                if (letters[start + i] != name.charAt(i)) {
                    return false;
                }
            }
            return true;
        }

        private boolean isRow(int net, boolean closed) {
            int there = 0;
            int first = -1;
            int last = -1;
            for (int i = 0; i < nodes; i++) {
                int v = figure();
                if (v < 0 || has(there, v)) {
                    return false;
                }
                place++;
                there |= 1 << v;
                if (i == 0) {
                    first = v;
                } else {
                    plan.link(net, last, v);
                }
                last = v;
            }
            if (closed) {
                plan.link(net, last, first);
            }
            return true;
        }

        private boolean isStar(int net) {
            int v = figure();
            if (v < 0) {
                return false;
            }
            place++;
            linkToAll(net, v);
            return true;
        }

        private boolean isLinks(int net) {
            for (int i = 0; i < MOST_LETTERS; i++) {
                if (!isLink(net)) {
                    return false;
                }
                if (ahead() != ',') {
                    return plan.joins(net, nodes);
                }
                place++;
            }
            return false;
        }

        private boolean isLink(int net) {
            int a = figure();
            if (a < 0) {
                return false;
            }
            place++;
            if (ahead() != '-') {
                return false;
            }
            place++;
            int b = figure();
            if (b < 0 || a == b || has(plan.of(net, a), b)) {
                return false;
            }
            place++;
            plan.link(net, a, b);
            return true;
        }

        private void linkToAll(int net, int v) {
            for (int u = 0; u < nodes; u++) {
                if (u != v) {
                    plan.link(net, u, v);
                }
            }
        }

        /** The NODE whose figure stands behind blanks, which are passed; -1: there is none. */
        private int figure() {
            int v = ahead() - '0';
            return v >= 0 && v < nodes ? v : -1;
        }
    }

    /** A SHEET: nothing, or a row of a LANE; its room is that of the longest row of the widest LANE. */
    private static final class Row {
        private static final int NOTHING = -1;
        private final long[] items = new long[MOST_ITEMS];
        private int lane = NOTHING;
        private int many;

        boolean isNothing() {
            return lane == NOTHING;
        }

        /** Whether there are as many items as told from item i on. */
        boolean covers(int i, int n) {
            return i >= 0 && n >= 0 && n <= many && i <= many - n;
        }

        void renew(int newLane, int n) {
            lane = newLane;
            many = n;
            for (int i = 0; i < MOST_ITEMS; i++) {
                items[i] = 0;
            }
        }

        int lose() {
            lane = NOTHING;
            return many;
        }

        /** An item, which is known to be there, becomes the lowest bits of a number. */
        void set(int i, long v) {
            switch (lane) {
                case 0:
                    items[i] = (byte) v;
                    break;
                case 1:
                    items[i] = (short) v;
                    break;
                case 2:
                    items[i] = (int) v;
                    break;
                default:
                    items[i] = v;
                    break;
            }
        }
    }
}
