import java.util.ArrayList;
import java.util.Arrays;
import java.util.List;

/** Promise 17: remembered. */
public final class Promise17RememberedTest extends Promises {
    public static void main(String[] args) {
        start("Promise 17: remembered");
        noSets();
        ownActs();
        ownSets();
        othersBetween();
        order();
        anyTwoWays();
        longestWays();
        anyTwoNodes();
        inTheTreeAlone();
        bad();
        without();
        close();
    }

    private static void noSets() {
        sentence("Whether a PLAYER'S SETS are REMEMBERED (1 or 0).");
        for (int player = 0; player < 2; player++) {
            due("an end", Games.ends(1), remembered(player), 1);
            due("a set with one node each", Games.entry(), remembered(player), 1);
            due("what the other one did is hidden", Games.pennies(), remembered(player), 1);
            due("all nodes", Games.fullest(0), remembered(player), 1);
        }
    }

    /** PLAYER 0'S SET 0 at the top, and a NODE of the SET below each ACT. */
    private static GameRows twoBelow(int player, int setLeft, int setRight) {
        GameRows g = new GameRows();
        g.set(0, 2);
        g.set(player, 2);
        g.set(player, 2);
        int left = g.node(setLeft, g.end(0, 0), g.end(0, 0), -1);
        int right = g.node(setRight, g.end(0, 0), g.end(0, 0), -1);
        g.node(0, left, right, -1);
        return g;
    }

    private static void ownActs() {
        sentence("the rows of the PLAYER'S own SETS, and ACTS taken there, on the ways to them are alike.");
        due("the own act is forgotten", twoBelow(0, 1, 1), remembered(0), 0);
        due("that is not the other one's", twoBelow(0, 1, 1), remembered(1), 1);
        due("the act of the other one is hidden", twoBelow(1, 1, 1), remembered(1), 1);
        due("0 has one set", twoBelow(1, 1, 1), remembered(0), 1);
        due("two sets", twoBelow(0, 1, 2), remembered(0), 1);
        due("the set itself again", twoBelow(0, 0, 1), remembered(0), 0);
        for (int without = 0; without < 3; without++) {
            GameRows g = new GameRows();
            g.set(1, 3);
            g.set(1, 2);
            int[] below = new int[3];
            for (int i = 0; i < 3; i++) {
                below[i] = i == without ? g.end(0, 0) : g.node(1, g.end(0, 0), g.end(0, 0), -1);
            }
            g.node(0, below[0], below[1], below[2]);
            due("two of three acts, without " + without, g, remembered(1), 0);
            due("of the other one", g, remembered(0), 1);
        }
    }

    /** Chance shows the PLAYER which of two SETS it is, and the PLAYER forgets it, or not. */
    private static void ownSets() {
        sentence("the rows of the PLAYER'S own SETS");
        for (int player = 0; player < 2; player++) {
            for (int forgets = 0; forgets < 2; forgets++) {
                GameRows g = new GameRows();
                g.set(player, 2);
                g.set(player, 2);
                g.set(player, 3);
                g.set(player, 3);
                int left = g.node(2, g.end(0, 0), g.end(0, 0), g.end(0, 0));
                int right = g.node(2 + 1 - forgets, g.end(0, 0), g.end(0, 0), g.end(0, 0));
                int first = g.node(0, left, g.end(0, 0), -1);
                int second = g.node(1, right, g.end(0, 0), -1);
                g.chance(first, second, -1);
                due("forgets which set " + forgets, g, remembered(player), 1 - forgets);
                due("of the other one", g, remembered(1 - player), 1);
            }
        }
    }

    private static void order() {
        sentence("the rows of the PLAYER'S own SETS");
        GameRows g = new GameRows();
        g.set(0, 2);
        g.set(0, 2);
        g.set(0, 2);
        int left = g.node(2, g.end(0, 0), g.end(0, 0), -1);
        left = g.node(1, g.node(0, left, g.end(0, 0), -1), g.end(0, 0), -1);
        due("one way", g, remembered(0), 1);
        int right = g.node(2, g.end(0, 0), g.end(0, 0), -1);
        right = g.node(0, g.node(1, right, g.end(0, 0), -1), g.end(0, 0), -1);
        g.chance(left, right, -1);
        due("the other order", g, remembered(0), 0);
    }

    /** What is no own SET may stand between the own ACT and the NODES below it. */
    private static void othersBetween() {
        sentence("the rows of the PLAYER'S own SETS, and ACTS taken there, on the ways to them are alike.");
        for (int between = 0; between < 2; between++) {
            GameRows g = new GameRows();
            g.set(0, 2);
            g.set(0, 2);
            g.set(1, 2);
            int left = lowBelow(g, between);
            int right = lowBelow(g, between);
            g.node(0, left, right, -1);
            due("below another act", g, remembered(0), 0);
            due("of the other one", g, remembered(1), 1);
            GameRows one = new GameRows();
            one.set(0, 2);
            one.set(0, 2);
            one.set(1, 2);
            int both = one.chance(lowBelow(one, between), lowBelow(one, between), -1);
            one.node(0, one.end(0, 0), both, -1);
            due("below one act", one, remembered(0), 1);
        }
    }

    /** A NODE of SET 1, below a CHANCE (0) or an ACT of SET 2 (1). */
    private static int lowBelow(GameRows g, int between) {
        int low = g.node(1, g.end(0, 0), g.end(0, 0), -1);
        return between == 0 ? g.chance(low, -1, -1) : g.node(2, g.end(0, 0), low, -1);
    }

    /** Two NODES of SET 4, each below two others of the PLAYER at most: all SETS and ACTS that 64 PLANS leave. */
    private static void anyTwoWays() {
        sentence("for any two NODES of one SET");
        GameRows g = new GameRows();
        int games = 0;
        for (int acts = 2; acts <= 3; acts++) {
            List<int[]> ways = waysOf(acts);
            for (int i = 0; i < ways.size(); i++) {
                for (int j = 0; j <= i; j++) {
                    if (setsOn(ways.get(i), ways.get(j)) <= (acts == 2 ? 5 : 3)) {
                        // 31 calls a game at most: 16 games for one object.
                        g = games++ % 16 == 0 ? new GameRows() : g;
                        compareWays(g, acts, ways.get(i), ways.get(j));
                    }
                }
            }
        }
        holds("many ways were compared, not " + games, games > 100_000);
    }

    /** Rows of up to two places, from the top on: 3 times a SET that is not 4, and an ACT. */
    private static List<int[]> waysOf(int acts) {
        List<int[]> ways = new ArrayList<>();
        ways.add(new int[0]);
        for (int i = 0; i < ways.size(); i++) {
            int[] way = ways.get(i);
            for (int place = 0; place < 30 && way.length < 2; place++) {
                if (place / 3 != 4 && place % 3 < acts) {
                    int[] longer = Arrays.copyOf(way, way.length + 1);
                    longer[way.length] = place;
                    ways.add(longer);
                }
            }
        }
        return ways;
    }

    private static int setsOn(int[] one, int[] other) {
        int sets = 0;
        for (int[] way : new int[][] {one, other}) {
            for (int place : way) {
                sets |= 1 << place / 3;
            }
        }
        return Integer.bitCount(sets);
    }

    private static void compareWays(GameRows g, int acts, int[] one, int[] other) {
        g.clear();
        for (int s = 0; s < 10; s++) {
            g.set(0, s == 4 ? 2 : acts);
        }
        g.chance(putWay(g, acts, one), putWay(g, acts, other), -1);
        boolean isTwice = one.length == 2 && one[0] / 3 == one[1] / 3;
        due("ways " + Arrays.toString(one) + " and " + Arrays.toString(other), g, remembered(0),
            Arrays.equals(one, other) && !isTwice ? 1 : 0);
    }

    private static int putWay(GameRows g, int acts, int[] way) {
        int node = g.node(4, g.end(0, 0), g.end(0, 0), -1);
        for (int i = way.length - 1; i >= 0; i--) {
            int[] children = {-1, -1, -1};
            for (int a = 0; a < acts; a++) {
                children[a] = a == way[i] % 3 ? node : g.end(0, 0);
            }
            node = g.node(way[i] / 3, children[0], children[1], children[2]);
        }
        return node;
    }

    /** Below a CHANCE two NODES of SET 9 with 5 own NODES above each: all alike, or another ACT at one of them. */
    private static void longestWays() {
        sentence("8 at most");
        for (int other = -1; other < 5; other++) {
            GameRows g = new GameRows();
            for (int s = 0; s < 10; s++) {
                g.set(1, 2);
            }
            int[] tops = new int[2];
            for (int way = 0; way < 2; way++) {
                tops[way] = g.node(9, g.end(0, 0), g.end(0, 0), -1);
                for (int i = 0; i < 5; i++) {
                    int end = g.end(0, 0);
                    boolean isOther = way == 1 && i == other;
                    tops[way] = g.node(4 + i, isOther ? end : tops[way], isOther ? tops[way] : end, -1);
                }
            }
            int top = g.chance(tops[0], tops[1], -1);
            Games.chancesAbove(g, 1, top);
            due("ways of 8", g, count(9), 8);
            due("another act at " + other, g, remembered(1), other == -1 ? 1 : 0);
        }
        due("a set 8 times on one way", Games.deep(8), remembered(0), 0);
        due("a set once on one way", Games.deep(1), remembered(0), 1);
    }

    private static void anyTwoNodes() {
        sentence("for any two NODES of one SET");
        // Of three NODES of SET 1 the first, the second or the last one is below another ACT of SET 0.
        for (int odd = 0; odd < 3; odd++) {
            GameRows g = new GameRows();
            g.set(0, 2);
            g.set(0, 2);
            int[] parts = new int[3];
            for (int i = 0; i < 3; i++) {
                int low = g.node(1, g.end(0, 0), g.end(0, 0), -1);
                int end = g.end(0, 0);
                parts[i] = g.node(0, i == odd ? low : end, i == odd ? end : low, -1);
            }
            g.chance(parts[0], parts[1], parts[2]);
            due("the odd one is " + odd, g, remembered(0), 0);
        }
    }

    private static void inTheTreeAlone() {
        sentence("THE TREE is that of its ROOT");
        GameRows g = twoBelow(0, 1, 1);
        due("forgotten", g, remembered(0), 0);
        int again = g.node(1, g.end(0, 0), g.end(0, 0), -1);
        due("a node of it alone", g, remembered(0), 1);
        int over = g.node(2, again, g.end(0, 0), -1);
        due("the other tree does not count", g, remembered(0), 1);
        g.chance(over, again - 3, -1);
        due("both trees", g, remembered(0), 0);
        g.end(0, 0);
        due("an end alone", g, remembered(0), 1);
    }

    private static void bad() {
        sentence("BAD");
        List<Call> calls = new ArrayList<>();
        for (int player : outOf(0, 1)) {
            calls.add(remembered(player));
        }
        refused(() -> twoBelow(0, 1, 1), BAD, calls);
        refused(() -> Games.fullest(0), BAD, calls);
    }

    private static void without() {
        sentence("What needs THE TREE is EMPTY without NODES, whatever else is told.");
        emptyWithoutNodes(List.of(remembered(0), remembered(1), remembered(2), remembered(-1), remembered(MIN), remembered(MAX)));
    }
}
