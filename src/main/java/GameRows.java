import java.util.Arrays;

/**
 * Games of two with hidden moves, after the document GameRows: NODES are put in behind their
 * CHILDREN, and THE TREE is that of the NODE put in last. Nothing is made behind the constructor:
 * what a call works out is kept in rows that stand, till THE TREE is another one.
 */
public final class GameRows {
    public static final int NONE = -1, BAD = -2, FULL = -3, TAKEN = -4, DEEP = -5, WRONG = -6, EMPTY = -1000000;

    private static final int MOST_NODES = 40;
    private static final int MOST_SETS = 10;
    private static final int LEAST_ACTS = 2;
    private static final int MOST_ACTS = 3;
    private static final int MOST_CHILDREN = 3;
    private static final int MOST_DEPTH = 8;
    private static final int MOST_CHANCES = 5;
    private static final int MOST_PLANS = 64;
    private static final int MOST_WORTH = 100;
    private static final int MOST_ANSWERING = 200;
    private static final int PLAYERS = 2;
    private static final int BITS = 64;

    // 6 to the 5: any 5 CHANCES of 1 .. 3 CHILDREN on a way divide it without a rest.
    private static final int PARTS = 7776;

    private static final int SORT_END = 0;
    private static final int SORT_CHANCE = 1;
    private static final int SORT_OF_SET = 2;

    private final Forest forest;
    private final Table table;
    private final Points points;
    private final Leaving leaving;
    private final Answering answering;

    public GameRows() {
        forest = new Forest();
        table = new Table(forest);
        points = new Points(forest, table);
        leaving = new Leaving(forest, table);
        answering = new Answering(forest, table);
    }

    public int clear() {
        return forest.dropAll();
    }

    public int set(int player, int acts) {
        if (!isPlayer(player) || !isAmong(acts, LEAST_ACTS, MOST_ACTS)) {
            return BAD;
        }
        return forest.addSet(player, acts);
    }

    public int end(int worth0, int worth1) {
        if (!isAmong(worth0, -MOST_WORTH, MOST_WORTH) || !isAmong(worth1, -MOST_WORTH, MOST_WORTH)) {
            return BAD;
        }
        return forest.addEnd(worth0, worth1);
    }

    public int chance(int a, int b, int c) {
        // A c with no b is a row of three whose b is not there.
        int size = c != NONE ? 3 : b != NONE ? 2 : 1;
        forest.offer(a, b, c);
        return forest.addParent(NONE, size);
    }

    public int node(int set, int a, int b, int c) {
        if (!forest.hasSet(set)) {
            return BAD;
        }
        forest.offer(a, b, c);
        return forest.addParent(set, forest.actsOf[set]);
    }

    public int count(int what) {
        if (!isAmong(what, 0, 9)) {
            return BAD;
        }
        if (what > 2 && isEmpty()) {
            return EMPTY;
        }
        switch (what) {
            case 0:
                return forest.nodes;
            case 1:
                return forest.sets;
            case 2:
                return Long.bitCount(forest.nodesInTree());
            case 3:
                return forest.plansOf(0);
            case 4:
                return forest.plansOf(1);
            case 5:
                points.find(false);
                return points.howMany(false);
            case 6:
                points.find(true);
                return points.howMany(true);
            case 7:
                return Long.bitCount(forest.gamesWithin());
            case 8:
                table.fillWhole();
                leaving.playAll();
                return leaving.pairsLeft();
            default:
                return forest.depthOfTree();
        }
    }

    public int told(int node, int what) {
        if (isEmpty() || !forest.hasNode(node) || !isAmong(what, 0, 5)) {
            return EMPTY;
        }
        boolean isEnd = forest.sorts[node] == SORT_END;
        if (what == 0) {
            return forest.sorts[node];
        }
        if (what == 1) {
            return isEnd ? forest.worthAt(node, 0) : forest.setOf[node];
        }
        if (what == 2) {
            return forest.parents[node];
        }
        if (what == 3 && isEnd) {
            return forest.worthAt(node, 1);
        }
        return forest.childAt(node, what - 3);
    }

    public int act(int player, int plan, int set) {
        if (isEmpty()) {
            return EMPTY;
        }
        if (!isPlan(player, plan) || !forest.hasSet(set)) {
            return BAD;
        }
        return forest.actNamed(player, plan, set);
    }

    public int worth(int plan0, int plan1, int player) {
        if (isEmpty() || !isPlan(0, plan0) || !isPlan(1, plan1) || !isPlayer(player)) {
            return EMPTY;
        }
        table.fillWhole();
        return table.valueOfPair(player, plan0, plan1);
    }

    public int answer(int player, int plan) {
        if (isEmpty()) {
            return EMPTY;
        }
        if (!isPlayer(player) || !isPlan(otherThan(player), plan)) {
            return BAD;
        }
        table.fillWhole();
        return table.bestAgainst(player, plan);
    }

    public int point(boolean perfect, int k) {
        if (isEmpty()) {
            return EMPTY;
        }
        points.find(perfect);
        return points.pointAt(perfect, k);
    }

    public int within(int k) {
        if (isEmpty()) {
            return EMPTY;
        }
        return bitAt(forest.gamesWithin(), k);
    }

    public int than(int player, int plan, int what) {
        if (isEmpty()) {
            return EMPTY;
        }
        if (!isPlan(player, plan) || !isAmong(what, 0, 2)) {
            return BAD;
        }
        table.fillWhole();
        if (what == 2) {
            return table.leastOneWith(player, plan);
        }
        return what == 0 ? table.leastBetter(player, plan) : table.leastWeaklyBetter(player, plan);
    }

    public int goes(int player, int plan) {
        if (isEmpty()) {
            return EMPTY;
        }
        if (!isPlan(player, plan)) {
            return BAD;
        }
        table.fillWhole();
        leaving.playAll();
        return leaving.roundOf(player, plan);
    }

    public int sure(int player) {
        if (isEmpty() || !isPlayer(player)) {
            return EMPTY;
        }
        table.fillWhole();
        return table.sureOf(player);
    }

    public int remembered(int player) {
        if (isEmpty()) {
            return EMPTY;
        }
        if (!isPlayer(player)) {
            return BAD;
        }
        return forest.remembersAll(player) ? 1 : 0;
    }

    public int taken(int rounds, int player, int plan) {
        if (isEmpty()) {
            return EMPTY;
        }
        if (!isAmong(rounds, 1, MOST_ANSWERING) || !isPlan(player, plan)) {
            return BAD;
        }
        table.fillWhole();
        answering.playTo(rounds);
        return answering.timesTaken(rounds, player, plan);
    }

    public int bound(int rounds, int what) {
        if (isEmpty() || !isAmong(rounds, 1, MOST_ANSWERING) || !isAmong(what, 0, 1)) {
            return EMPTY;
        }
        table.fillWhole();
        answering.playTo(rounds);
        return what == 0 ? answering.lowBehind(rounds) : answering.highBehind(rounds);
    }

    private boolean isEmpty() {
        return forest.nodes == 0;
    }

    private boolean isPlan(int player, int plan) {
        return isPlayer(player) && plan >= 0 && plan < forest.plansOf(player);
    }

    private static boolean isPlayer(int player) {
        return player == 0 || player == 1;
    }

    private static boolean isAmong(int number, int least, int most) {
        return number >= least && number <= most;
    }

    private static int otherThan(int player) {
        return 1 - player;
    }

    private static boolean hasBit(long bits, int i) {
        return (bits >>> i & 1L) != 0;
    }

    /** For n of 1 .. 64. */
    private static long firstBits(int n) {
        return -1L >>> BITS - n;
    }

    /** The place of the bit that has k set ones below it, or NONE. */
    private static int bitAt(long bits, int k) {
        int before = 0;
        for (int i = 0; i < BITS; i++) {
            if (hasBit(bits, i)) {
                if (before == k) {
                    return i;
                }
                before++;
            }
        }
        return NONE;
    }

    /** All NODES and SETS, THE TREE among them; rows of NODES below a NODE are bits of a long. */
    private static final class Forest {
        int nodes = 0;
        int sets = 0;
        // Another number whenever THE TREE is another one, so that what was worked out is known to be old.
        int version = 0;
        final int[] sorts = new int[MOST_NODES];
        final int[] setOf = new int[MOST_NODES];
        final int[] parents = new int[MOST_NODES];
        final int[] actsOf = new int[MOST_SETS];
        private final int[] worths = new int[PLAYERS * MOST_NODES];
        private final int[] children = new int[MOST_CHILDREN * MOST_NODES];
        final int[] sizes = new int[MOST_NODES];
        private final int[] depthsBelow = new int[MOST_NODES];
        private final int[] chancesBelow = new int[MOST_NODES];
        private final long[] nodesFrom = new long[MOST_NODES];
        private final int[] setsFrom = new int[MOST_NODES];
        private final int[] ownerOf = new int[MOST_SETS];
        private final long[] nodesOf = new long[MOST_SETS];
        private final int[] offered = new int[MOST_CHILDREN];

        int dropAll() {
            int before = nodes;
            nodes = 0;
            sets = 0;
            version++;
            return before;
        }

        int addSet(int player, int acts) {
            if (sets >= MOST_SETS) {
                return FULL;
            }
            ownerOf[sets] = player;
            actsOf[sets] = acts;
            nodesOf[sets] = 0L;
            return sets++;
        }

        int addEnd(int worth0, int worth1) {
            if (nodes >= MOST_NODES) {
                return FULL;
            }
            int added = startNode(SORT_END, NONE);
            worths[PLAYERS * added] = worth0;
            worths[PLAYERS * added + 1] = worth1;
            depthsBelow[added] = 0;
            chancesBelow[added] = 0;
            setsFrom[added] = 0;
            return added;
        }

        /** The CHILDREN that the next addParent is about. */
        void offer(int a, int b, int c) {
            offered[0] = a;
            offered[1] = b;
            offered[2] = c;
        }

        /** A NODE of a SET, or a CHANCE (set is NONE), above the first ones that were offered. */
        int addParent(int set, int size) {
            if (!areOfferedThere(size)) {
                return BAD;
            }
            if (nodes >= MOST_NODES) {
                return FULL;
            }
            if (isOfferedTaken(size)) {
                return TAKEN;
            }
            int depth = 1 + greatestOffered(depthsBelow, size);
            int chances = greatestOffered(chancesBelow, size) + (set == NONE ? 1 : 0);
            if (depth > MOST_DEPTH || chances > MOST_CHANCES) {
                return DEEP;
            }
            int setsThere = setsOffered(size) | (set == NONE ? 0 : 1 << set);
            if (plansWith(0, setsThere) > MOST_PLANS || plansWith(1, setsThere) > MOST_PLANS) {
                return WRONG;
            }
            int added = startNode(set == NONE ? SORT_CHANCE : SORT_OF_SET, set);
            depthsBelow[added] = depth;
            chancesBelow[added] = chances;
            setsFrom[added] = setsThere;
            adoptOffered(added, size);
            return added;
        }

        private boolean areOfferedThere(int size) {
            for (int i = 0; i < size; i++) {
                if (!hasNode(offered[i])) {
                    return false;
                }
            }
            return true;
        }

        private boolean isOfferedTaken(int size) {
            for (int i = 0; i < size; i++) {
                if (parents[offered[i]] != NONE) {
                    return true;
                }
                for (int j = 0; j < i; j++) {
                    if (offered[i] == offered[j]) {
                        return true;
                    }
                }
            }
            return false;
        }

        private int greatestOffered(int[] row, int size) {
            int greatest = 0;
            for (int i = 0; i < size; i++) {
                greatest = Math.max(greatest, row[offered[i]]);
            }
            return greatest;
        }

        private int setsOffered(int size) {
            int found = 0;
            for (int i = 0; i < size; i++) {
                found |= setsFrom[offered[i]];
            }
            return found;
        }

        private int startNode(int sort, int set) {
            int added = nodes;
            sorts[added] = sort;
            setOf[added] = set;
            sizes[added] = 0;
            parents[added] = NONE;
            nodesFrom[added] = 1L << added;
            if (set != NONE) {
                nodesOf[set] |= 1L << added;
            }
            for (int i = 0; i < MOST_CHILDREN; i++) {
                children[MOST_CHILDREN * added + i] = NONE;
            }
            nodes++;
            version++;
            return added;
        }

        private void adoptOffered(int added, int size) {
            sizes[added] = size;
            for (int i = 0; i < size; i++) {
                children[MOST_CHILDREN * added + i] = offered[i];
                parents[offered[i]] = added;
                nodesFrom[added] |= nodesFrom[offered[i]];
            }
        }

        boolean hasNode(int node) {
            return node >= 0 && node < nodes;
        }

        boolean hasSet(int set) {
            return set >= 0 && set < sets;
        }

        int worthAt(int node, int player) {
            return worths[PLAYERS * node + player];
        }

        int childAt(int node, int i) {
            return children[MOST_CHILDREN * node + i];
        }

        /** NONE without NODES. */
        int root() {
            return nodes - 1;
        }

        long nodesInTree() {
            return nodes == 0 ? 0L : nodesFrom[root()];
        }

        private int setsInTree() {
            return nodes == 0 ? 0 : setsFrom[root()];
        }

        int depthOfTree() {
            return nodes == 0 ? 0 : depthsBelow[root()];
        }

        int plansOf(int player) {
            return plansWith(player, setsInTree());
        }

        private int plansWith(int player, int setsThere) {
            int plans = 1;
            for (int s = 0; s < sets; s++) {
                if (ownerOf[s] == player && hasBit(setsThere, s)) {
                    plans *= actsOf[s];
                }
            }
            return plans;
        }

        int plansFrom(int start, int player) {
            return plansWith(player, setsFrom[start]);
        }

        private boolean isPlayedFrom(int start, int player, int set) {
            return ownerOf[set] == player && hasBit(setsFrom[start], set);
        }

        int actNamed(int player, int plan, int set) {
            int rest = plan;
            for (int s = sets - 1; s >= 0; s--) {
                if (isPlayedFrom(root(), player, s) && actsOf[s] > 0) {
                    if (s == set) {
                        return rest % actsOf[s];
                    }
                    rest /= actsOf[s];
                }
            }
            return NONE;
        }

        /** The number of a PLAN, as far as its SETS are there, among those of the game that begins at a NODE. */
        int planFrom(int start, int player, int plan) {
            int rest = plan;
            int inner = 0;
            int weight = 1;
            for (int s = sets - 1; s >= 0; s--) {
                if (isPlayedFrom(root(), player, s) && actsOf[s] > 0) {
                    if (hasBit(setsFrom[start], s)) {
                        inner += rest % actsOf[s] * weight;
                        weight *= actsOf[s];
                    }
                    rest /= actsOf[s];
                }
            }
            return inner;
        }

        /** The next PLAN in a row with a place for each SET; behind the last one comes the first one again. */
        void stepPlan(int start, int player, int[] row) {
            for (int s = sets - 1; s >= 0; s--) {
                if (isPlayedFrom(start, player, s)) {
                    row[s]++;
                    if (row[s] < actsOf[s]) {
                        return;
                    }
                    row[s] = 0;
                }
            }
        }

        /** The NODES at which GAMES WITHIN begin. */
        long gamesWithin() {
            long found = nodes == 0 ? 0L : 1L << root();
            for (int n = 0; n < root(); n++) {
                if (hasBit(nodesInTree(), n) && sorts[n] == SORT_OF_SET && isGameWithin(n)) {
                    found |= 1L << n;
                }
            }
            return found;
        }

        private boolean isGameWithin(int node) {
            if ((nodesOf[setOf[node]] & nodesInTree()) != 1L << node) {
                return false;
            }
            long elsewhere = nodesInTree() & ~nodesFrom[node];
            for (int s = 0; s < sets; s++) {
                if (hasBit(setsFrom[node], s) && (nodesOf[s] & elsewhere) != 0) {
                    return false;
                }
            }
            return true;
        }

        boolean remembersAll(int player) {
            for (int s = 0; s < sets; s++) {
                if (ownerOf[s] == player && !areWaysAlike(player, s)) {
                    return false;
                }
            }
            return true;
        }

        private boolean areWaysAlike(int player, int set) {
            long there = nodesOf[set] & nodesInTree();
            long before = NONE;
            for (int n = 0; n < nodes; n++) {
                if (hasBit(there, n)) {
                    long way = wayTo(player, n);
                    if (before != NONE && way != before) {
                        return false;
                    }
                    before = way;
                }
            }
            return true;
        }

        /** The PLAYER'S SETS and ACTS on the way to a NODE as one number: a digit of 1 .. 30 for each. */
        private long wayTo(int player, int node) {
            long way = 0;
            int below = node;
            int above = parents[node];
            for (int step = 0; step < MOST_DEPTH && above != NONE; step++) {
                int set = setOf[above];
                if (set != NONE && ownerOf[set] == player) {
                    way = way * (MOST_ACTS * MOST_SETS + 1) + 1 + MOST_ACTS * set + actTo(above, below);
                }
                below = above;
                above = parents[above];
            }
            return way;
        }

        private int actTo(int above, int below) {
            int found = 0;
            for (int i = 0; i < sizes[above]; i++) {
                if (childAt(above, i) == below) {
                    found = i;
                }
            }
            return found;
        }
    }

    /** The WORTHS of all pairs of PLANS in the game that begins at a NODE: of the SETS there alone. */
    private static final class Table {
        final int[] plans = new int[PLAYERS];
        private final Forest forest;
        private final int[][] worths = new int[PLAYERS][MOST_PLANS * MOST_PLANS];
        private final int[] acts = new int[MOST_SETS];
        private final int[] shares = new int[MOST_NODES];
        private int madeFor = NONE;
        private int madeFrom = NONE;

        Table(Forest forest) {
            this.forest = forest;
        }

        void fillWhole() {
            fillFrom(forest.root());
        }

        void fillFrom(int start) {
            if (madeFor == forest.version && madeFrom == start) {
                return;
            }
            madeFor = forest.version;
            madeFrom = start;
            plans[0] = forest.plansFrom(start, 0);
            plans[1] = forest.plansFrom(start, 1);
            Arrays.fill(acts, 0);
            for (int p = 0; p < plans[0]; p++) {
                for (int q = 0; q < plans[1]; q++) {
                    weighPair(start, MOST_PLANS * p + q);
                    forest.stepPlan(start, 1, acts);
                }
                forest.stepPlan(start, 0, acts);
            }
        }

        /** Hands the parts down: CHILDREN have lesser numbers, so each NODE has its share when its turn comes. */
        private void weighPair(int start, int pair) {
            int sum0 = 0;
            int sum1 = 0;
            shares[start] = PARTS;
            for (int n = start; n >= 0; n--) {
                int share = shares[n];
                if (share != 0) {
                    shares[n] = 0;
                    if (forest.sorts[n] == SORT_END) {
                        sum0 += share * forest.worthAt(n, 0);
                        sum1 += share * forest.worthAt(n, 1);
                    } else if (forest.sorts[n] == SORT_CHANCE) {
                        shareAmongAll(n, share);
                    } else {
                        shares[forest.childAt(n, acts[forest.setOf[n]])] = share;
                    }
                }
            }
            worths[0][pair] = sum0;
            worths[1][pair] = sum1;
        }

        private void shareAmongAll(int chance, int share) {
            int size = forest.sizes[chance];
            for (int i = 0; i < size; i++) {
                shares[forest.childAt(chance, i)] = share / size;
            }
        }

        int valueOfPair(int player, int plan0, int plan1) {
            return worths[player][MOST_PLANS * plan0 + plan1];
        }

        /** What a PLAYER'S own PLAN is worth for that PLAYER against one of the other PLAYER. */
        int value(int player, int own, int other) {
            return player == 0 ? worths[0][MOST_PLANS * own + other] : worths[1][MOST_PLANS * other + own];
        }

        int bestAgainst(int player, int other) {
            int best = 0;
            for (int own = 1; own < plans[player]; own++) {
                if (value(player, own, other) > value(player, best, other)) {
                    best = own;
                }
            }
            return best;
        }

        int sureOf(int player) {
            int greatest = leastOf(player, 0);
            for (int own = 1; own < plans[player]; own++) {
                greatest = Math.max(greatest, leastOf(player, own));
            }
            return greatest;
        }

        private int leastOf(int player, int own) {
            int least = value(player, own, 0);
            for (int other = 1; other < plans[otherThan(player)]; other++) {
                least = Math.min(least, value(player, own, other));
            }
            return least;
        }

        int leastBetter(int player, int plan) {
            return leastBetterAmong(player, plan, firstBits(plans[player]), firstBits(plans[otherThan(player)]));
        }

        int leastBetterAmong(int player, int plan, long own, long others) {
            for (int better = 0; better < plans[player]; better++) {
                if (hasBit(own, better) && isWorse(player, plan, better, others)) {
                    return better;
                }
            }
            return NONE;
        }

        private boolean isWorse(int player, int plan, int better, long others) {
            for (int other = 0; other < plans[otherThan(player)]; other++) {
                if (hasBit(others, other) && value(player, plan, other) >= value(player, better, other)) {
                    return false;
                }
            }
            return true;
        }

        int leastWeaklyBetter(int player, int plan) {
            for (int better = 0; better < plans[player]; better++) {
                if (isWeaklyWorse(player, plan, better)) {
                    return better;
                }
            }
            return NONE;
        }

        private boolean isWeaklyWorse(int player, int plan, int better) {
            boolean isLess = false;
            for (int other = 0; other < plans[otherThan(player)]; other++) {
                int mine = value(player, plan, other);
                int theirs = value(player, better, other);
                if (mine > theirs) {
                    return false;
                }
                isLess |= mine < theirs;
            }
            return isLess;
        }

        int leastOneWith(int player, int plan) {
            for (int lesser = 0; lesser < plan; lesser++) {
                if (areOne(player, plan, lesser)) {
                    return lesser;
                }
            }
            return plan;
        }

        private boolean areOne(int player, int plan, int lesser) {
            for (int other = 0; other < plans[otherThan(player)]; other++) {
                int pair = player == 0 ? MOST_PLANS * plan + other : MOST_PLANS * other + plan;
                int lesserPair = player == 0 ? MOST_PLANS * lesser + other : MOST_PLANS * other + lesser;
                if (worths[0][pair] != worths[0][lesserPair] || worths[1][pair] != worths[1][lesserPair]) {
                    return false;
                }
            }
            return true;
        }
    }

    /** POINTS, and PERFECT ones: a row of bits (PLANS of PLAYER 1) for each PLAN of PLAYER 0. */
    private static final class Points {
        private final Forest forest;
        private final Table table;
        private final long[][] rows = new long[2][MOST_PLANS];
        private final int[] madeFor = {NONE, NONE};
        // What the best answer to each PLAN of the other one is worth, in the game that is looked at.
        private final int[][] best = new int[PLAYERS][MOST_PLANS];
        // What each PLAN of THE TREE is in that game.
        private final int[][] inner = new int[PLAYERS][MOST_PLANS];

        Points(Forest forest, Table table) {
            this.forest = forest;
            this.table = table;
        }

        /** POINTS are those of THE TREE alone, PERFECT ones those of all GAMES WITHIN. */
        void find(boolean perfect) {
            int place = placeOf(perfect);
            if (madeFor[place] == forest.version) {
                return;
            }
            madeFor[place] = forest.version;
            Arrays.fill(rows[place], firstBits(forest.plansOf(1)));
            long starts = perfect ? forest.gamesWithin() : 1L << forest.root();
            // THE ROOT comes last, so that the table is left as that of THE TREE.
            for (int n = 0; n < forest.nodes; n++) {
                if (hasBit(starts, n)) {
                    keepPoints(n, rows[place]);
                }
            }
        }

        private static int placeOf(boolean perfect) {
            return perfect ? 1 : 0;
        }

        int howMany(boolean perfect) {
            long[] found = rows[placeOf(perfect)];
            int plans = forest.plansOf(0);
            int sum = 0;
            for (int p = 0; p < plans; p++) {
                sum += Long.bitCount(found[p]);
            }
            return sum;
        }

        int pointAt(boolean perfect, int k) {
            long[] found = rows[placeOf(perfect)];
            int plans = forest.plansOf(0);
            int rest = k;
            for (int p = 0; p < plans && rest >= 0; p++) {
                int inRow = Long.bitCount(found[p]);
                if (rest < inRow) {
                    return MOST_PLANS * p + bitAt(found[p], rest);
                }
                rest -= inRow;
            }
            return NONE;
        }

        /** Leaves of the pairs that are kept those that are POINTS in the game that begins at a NODE. */
        private void keepPoints(int start, long[] kept) {
            table.fillFrom(start);
            int plans0 = findInner(0, start);
            int plans1 = findInner(1, start);
            findBest(0);
            findBest(1);
            for (int p = 0; p < plans0; p++) {
                for (int q = 0; q < plans1; q++) {
                    if (hasBit(kept[p], q) && !isPoint(inner[0][p], inner[1][q])) {
                        kept[p] &= ~(1L << q);
                    }
                }
            }
        }

        private int findInner(int player, int start) {
            int plans = forest.plansOf(player);
            for (int plan = 0; plan < plans; plan++) {
                inner[player][plan] = forest.planFrom(start, player, plan);
            }
            return plans;
        }

        private boolean isPoint(int p, int q) {
            return table.value(0, p, q) == best[0][q] && table.value(1, q, p) == best[1][p];
        }

        private void findBest(int player) {
            for (int other = 0; other < table.plans[otherThan(player)]; other++) {
                best[player][other] = table.value(player, table.bestAgainst(player, other), other);
            }
        }
    }

    /** ROUNDS in which PLANS go that are WORSE than one that is left. */
    private static final class Leaving {
        private final Forest forest;
        private final Table table;
        private final int[][] goneIn = new int[PLAYERS][MOST_PLANS];
        private final long[] left = new long[PLAYERS];
        private int madeFor = NONE;

        Leaving(Forest forest, Table table) {
            this.forest = forest;
            this.table = table;
        }

        int roundOf(int player, int plan) {
            return goneIn[player][plan];
        }

        int pairsLeft() {
            return Long.bitCount(left[0]) * Long.bitCount(left[1]);
        }

        void playAll() {
            if (madeFor == forest.version) {
                return;
            }
            madeFor = forest.version;
            for (int player = 0; player < PLAYERS; player++) {
                Arrays.fill(goneIn[player], NONE);
                left[player] = firstBits(table.plans[player]);
            }
            // Each round but the last takes a PLAN at least.
            for (int round = 1; round <= PLAYERS * MOST_PLANS; round++) {
                long going0 = thoseThatGo(0);
                long going1 = thoseThatGo(1);
                if (going0 == 0 && going1 == 0) {
                    break;
                }
                takeAway(0, going0, round);
                takeAway(1, going1, round);
            }
        }

        private long thoseThatGo(int player) {
            long going = 0L;
            for (int plan = 0; plan < table.plans[player]; plan++) {
                if (hasBit(left[player], plan)
                        && table.leastBetterAmong(player, plan, left[player], left[otherThan(player)]) != NONE) {
                    going |= 1L << plan;
                }
            }
            return going;
        }

        private void takeAway(int player, long going, int round) {
            for (int plan = 0; plan < table.plans[player]; plan++) {
                if (hasBit(going, plan)) {
                    goneIn[player][plan] = round;
                }
            }
            left[player] &= ~going;
        }
    }

    /** ANSWERING ROUNDS, played as far as they were asked for, and never twice. */
    private static final class Answering {
        private final Forest forest;
        private final Table table;
        private final int[][] picks = new int[PLAYERS][MOST_ANSWERING];
        // What each own PLAN is worth against all that the other one took so far, together.
        private final int[][] sums = new int[PLAYERS][MOST_PLANS];
        private int played = 0;
        private int madeFor = NONE;

        Answering(Forest forest, Table table) {
            this.forest = forest;
            this.table = table;
        }

        int timesTaken(int rounds, int player, int plan) {
            int times = 0;
            for (int r = 0; r < rounds; r++) {
                if (picks[player][r] == plan) {
                    times++;
                }
            }
            return times;
        }

        int lowBehind(int rounds) {
            int low = sumAgainst(0, rounds);
            for (int other = 1; other < table.plans[1]; other++) {
                low = Math.min(low, sumAgainst(other, rounds));
            }
            return low;
        }

        int highBehind(int rounds) {
            int high = sumFor(0, rounds);
            for (int own = 1; own < table.plans[0]; own++) {
                high = Math.max(high, sumFor(own, rounds));
            }
            return high;
        }

        private int sumAgainst(int plan1, int rounds) {
            int sum = 0;
            for (int r = 0; r < rounds; r++) {
                sum += table.valueOfPair(0, picks[0][r], plan1);
            }
            return sum;
        }

        private int sumFor(int plan0, int rounds) {
            int sum = 0;
            for (int r = 0; r < rounds; r++) {
                sum += table.valueOfPair(0, plan0, picks[1][r]);
            }
            return sum;
        }

        void playTo(int rounds) {
            if (madeFor != forest.version) {
                madeFor = forest.version;
                played = 0;
                Arrays.fill(sums[0], 0);
                Arrays.fill(sums[1], 0);
            }
            for (int r = played; r < rounds; r++) {
                // In the first round all sums are 0, so that both take PLAN 0.
                picks[0][r] = leastOfGreatest(0);
                picks[1][r] = leastOfGreatest(1);
                addUp(0, picks[1][r]);
                addUp(1, picks[0][r]);
            }
            played = Math.max(played, rounds);
        }

        private int leastOfGreatest(int player) {
            int best = 0;
            for (int own = 1; own < table.plans[player]; own++) {
                if (sums[player][own] > sums[player][best]) {
                    best = own;
                }
            }
            return best;
        }

        private void addUp(int player, int other) {
            for (int own = 0; own < table.plans[player]; own++) {
                sums[player][own] += table.value(player, own, other);
            }
        }
    }
}
