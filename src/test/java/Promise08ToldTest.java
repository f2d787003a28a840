import java.util.ArrayList;
import java.util.List;

/** Promise 8: told. */
public final class Promise08ToldTest extends Promises {
    public static void main(String[] args) {
        start("Promise 8: told");
        ofEachSort();
        worthsAtTheBounds();
        noParent();
        noChildren();
        lastNode();
        notInTree();
        badAsEmpty();
        without();
        close();
    }

    private static void tells(String game, GameRows g, int node, int... due) {
        for (int what = 0; what <= 5; what++) {
            due(game, g, told(node, what), due[what]);
        }
    }

    private static GameRows allSorts() {
        GameRows g = new GameRows();
        g.set(0, 3);
        g.set(1, 2);
        g.end(-7, 9);
        g.end(100, -100);
        g.end(0, 0);
        g.end(5, 6);
        g.node(1, 1, 0, 3);
        g.chance(3, 2, -1);
        g.end(1, 2);
        g.node(0, 5, 6, 4);
        g.chance(7, -1, -1);
        return g;
    }

    private static void ofEachSort() {
        sentence("its sort (0 END, 1 CHANCE, 2 of a SET), 1 its SET (of an END PLAYER 0'S WORTH, of a CHANCE NONE)");
        int[][] due = {
            {0, -7, 4, 9, -1, -1},
            {0, 100, 4, -100, -1, -1},
            {0, 0, 5, 0, -1, -1},
            {0, 5, 5, 6, -1, -1},
            {2, 1, 7, 1, 0, -1},
            {1, -1, 7, 3, 2, -1},
            {0, 1, 7, 2, -1, -1},
            {2, 0, 8, 5, 6, 4},
            {1, -1, -1, 7, -1, -1}};
        GameRows g = allSorts();
        for (int n = 0; n < due.length; n++) {
            tells("all sorts", g, n, due[n]);
        }
    }

    private static void worthsAtTheBounds() {
        sentence("of an END 3: PLAYER 1'S WORTH");
        int[][] worths = {{-100, 100}, {100, -100}, {-1, -1}, {0, 0}, {-2, -6}};
        for (int[] w : worths) {
            GameRows g = new GameRows();
            g.end(w[0], w[1]);
            tells("an end", g, 0, 0, w[0], -1, w[1], -1, -1);
        }
    }

    private static void noParent() {
        sentence("2 its parent (NONE)");
        GameRows g = Games.entry();
        due("the root", g, told(4, 2), NONE);
        due("below it", g, told(0, 2), 4);
        g.end(0, 0);
        due("a root before", g, told(4, 2), NONE);
        due("the root now", g, told(5, 2), NONE);
        g.chance(4, 5, -1);
        due("behind a chance", g, told(4, 2), 6);
        due("behind a chance", g, told(5, 2), 6);
    }

    private static void noChildren() {
        sentence("3 .. 5 its CHILDREN (NONE; of an END 3: PLAYER 1'S WORTH)");
        GameRows g = Games.someTaken();
        tells("an end", g, 4, 0, 4, -1, 8, -1, -1);
        tells("a chance of two", g, 6, 1, -1, -1, 0, 1, -1);
        tells("a node of two acts", g, 7, 2, 0, -1, 2, 3, -1);
        g.chance(4, -1, -1);
        tells("a chance of one", g, 9, 1, -1, -1, 4, -1, -1);
        g.chance(8, 7, 5);
        tells("a chance of three", g, 10, 1, -1, -1, 8, 7, 5);
        g.node(1, 6, 10, 9);
        tells("a node of three acts", g, 11, 2, 1, -1, 6, 10, 9);
    }

    private static void lastNode() {
        sentence("======== 1 NODES 0 ..");
        tells("the last of 40", Games.ends(40), 39, 0, 39, -1, 78, -1, -1);
        tells("the first of 40", Games.ends(40), 0, 0, 0, -1, 0, -1, -1);
        tells("the last of the fullest", Games.fullest(0), 39, 1, -1, -1, 37, 38, -1);
        due("not there yet", Games.ends(39), told(39, 0), EMPTY);
    }

    private static void notInTree() {
        sentence("Of a NODE");
        GameRows g = allSorts();
        g.end(0, 0);
        tells("a node that is not in the tree", g, 7, 2, 0, 8, 5, 6, 4);
    }

    private static void badAsEmpty() {
        sentence("BAD: as EMPTY.");
        List<Call> calls = new ArrayList<>();
        for (int n : outOf(0, 8)) {
            calls.add(told(n, 0));
            calls.add(told(n, 2));
            calls.add(told(n, 5));
        }
        for (int what : outOf(0, 5)) {
            calls.add(told(0, what));
            calls.add(told(5, what));
            calls.add(told(8, what));
        }
        refused(Promise08ToldTest::allSorts, EMPTY, calls);
        refused(() -> Games.fullest(1), EMPTY, told(40, 0), told(-1, 0), told(39, 6), told(39, -1), told(40, 6));
    }

    private static void without() {
        sentence("What needs THE TREE is EMPTY without NODES, whatever else is told.");
        List<Call> calls = new ArrayList<>();
        for (int x : new int[] {0, 1, 5, 6, 39, 40, -1, MIN, MAX}) {
            calls.add(told(x, 0));
            calls.add(told(0, x));
            calls.add(told(x, x));
        }
        emptyWithoutNodes(calls);
    }
}
