import java.util.ArrayList;
import java.util.List;

/** Promise 13: within. */
public final class Promise13WithinTest extends Promises {
    public static void main(String[] args) {
        start("Promise 13: within");
        byRisingOnes();
        atItsRoot();
        ofASet();
        noOtherNode();
        setBelowReachesOut();
        inTheTreeAlone();
        none();
        without();
        close();
    }

    private static void rowOfWithin(String game, GameRows g, int... due) {
        for (int k = 0; k < due.length; k++) {
            due(game, g, within(k), due[k]);
        }
        for (int k : outOf(0, due.length - 1)) {
            due(game, g, within(k), NONE);
        }
        due(game, g, count(7), due.length);
    }

    private static void byRisingOnes() {
        sentence("The NODE at which GAME WITHIN k begins, by rising ones.");
        rowOfWithin("entry", Games.entry(), 3, 4);
        // Two towers of five SETS each, NODES at 2, 4 .. and at 13, 15 .., and a CHANCE.
        GameRows g = new GameRows();
        g.chance(Games.tower(g, 0, 2, 2, 2, 2, 2), Games.tower(g, 1, 2, 2, 2, 2, 2), -1);
        rowOfWithin("all sets", g, 2, 4, 6, 8, 10, 13, 15, 17, 19, 21, 22);
        rowOfWithin("all nodes, the root is 39", Games.fullest(0), 2, 4, 7, 10, 12, 15, 18, 20, 23, 39);
    }

    private static void atItsRoot() {
        sentence("so does THE TREE at its ROOT.");
        GameRows g = Games.ends(1);
        rowOfWithin("an end", g, 0);
        g.chance(0, -1, -1);
        rowOfWithin("a chance", g, 1);
        rowOfWithin("a node of a set", Games.pennies(), 6);
        rowOfWithin("a node of a set that has others", Games.deep(8), 16);
        rowOfWithin("node 39", Games.ends(40), 39);
    }

    private static void ofASet() {
        sentence("A GAME WITHIN begins at a NODE of a SET");
        GameRows g = new GameRows();
        g.set(0, 2);
        g.set(1, 2);
        int low = g.node(0, g.end(0, 0), g.end(0, 0), -1);
        int mid = g.chance(low, g.end(0, 0), -1);
        int top = g.node(1, mid, g.end(0, 0), -1);
        rowOfWithin("none at a chance between, nor at an end", g, low, top);
    }

    private static void noOtherNode() {
        sentence("that has no other NODE in THE TREE");
        GameRows g = new GameRows();
        g.set(0, 2);
        g.set(1, 2);
        int below = g.node(0, g.end(1, 1), g.end(4, 4), -1);
        int above = g.node(0, below, g.end(2, 2), -1);
        rowOfWithin("a set twice on a way", g, above);
        int whole = g.node(1, above, g.end(0, 0), -1);
        rowOfWithin("a set twice on a way below the root", g, whole);
        rowOfWithin("side by side", Games.atOnce(new int[3][3], new int[3][3]), 12);
    }

    private static void setBelowReachesOut() {
        sentence("if each SET that has a NODE below it (or that one) has all its NODES in THE TREE there");
        for (int reaching = 0; reaching < 2; reaching++) {
            GameRows g = new GameRows();
            g.set(1 - reaching, 2);
            g.set(reaching, 2);
            g.set(0, 2);
            int left = g.node(reaching, g.end(0, 0), g.end(0, 0), -1);
            g.node(2, left, g.end(0, 0), -1);
            int right = g.node(reaching, g.end(0, 0), g.end(0, 0), -1);
            int all = g.node(1 - reaching, 4, right, -1);
            rowOfWithin("set " + reaching + " is outside too", g, all);
        }
        // Both NODES of a SET below one NODE: a game begins there.
        GameRows inside = Games.pennies();
        int over = Games.above(inside, inside.set(1, 2), 2, 6);
        rowOfWithin("all of it is there", inside, 6, over);
    }

    private static void inTheTreeAlone() {
        sentence("THE TREE is that of its ROOT");
        GameRows g = Games.entry();
        int other = g.node(1, g.end(0, 0), g.end(0, 0), -1);
        rowOfWithin("other nodes of the set are not in the tree", g, other);
        int otherRoot = g.node(0, g.end(0, 0), other, -1);
        rowOfWithin("a second tree", g, other, otherRoot);
        g.chance(4, otherRoot, -1);
        rowOfWithin("both trees", g, otherRoot + 1);
        // NODES of THE TREE between others: 0, 2, 4, 6, 8 are in it, 1, 3, 5, 7 are not.
        GameRows between = new GameRows();
        between.set(0, 2);
        between.set(1, 2);
        for (int n = 0; n < 4; n++) {
            between.end(n, n);
        }
        between.node(1, 0, 2, -1);
        between.node(1, 1, 3, -1);
        between.end(0, 0);
        between.end(0, 0);
        between.node(0, 4, 6, -1);
        rowOfWithin("between others", between, 4, 8);
        due("between others", between, count(2), 5);
    }

    private static void none() {
        sentence("NONE");
        List<Call> calls = new ArrayList<>();
        for (int k : outOf(0, 1)) {
            calls.add(within(k));
        }
        refused(Games::entry, NONE, calls);
        refused(() -> Games.fullest(0), NONE, within(10), within(-1), within(40), within(MAX), within(MIN));
        refused(() -> Games.ends(1), NONE, within(1), within(-1));
    }

    private static void without() {
        sentence("What needs THE TREE is EMPTY without NODES, whatever else is told.");
        emptyWithoutNodes(List.of(within(0), within(1), within(-1), within(39), within(MIN), within(MAX)));
    }
}
