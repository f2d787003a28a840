import java.util.ArrayList;
import java.util.List;

/** Promise 7: count. */
public final class Promise07CountTest extends Promises {
    public static void main(String[] args) {
        start("Promise 7: count");
        eachWhat();
        nodesAndSets();
        nodesInTree();
        plans();
        points();
        gamesWithin();
        pairsLeft();
        greatestDepth();
        bad();
        emptyButForThree();
        badBeforeEmpty();
        changesNothing();
        close();
    }

    private static void counts(String game, GameRows g, int... due) {
        for (int what = 0; what < due.length; what++) {
            due(game, g, count(what), due[what]);
        }
    }

    private static void eachWhat() {
        sentence("What = 0 NODES, 1 SETS, 2 NODES in THE TREE, 3 PLANS of PLAYER 0, 4 of PLAYER 1");
        counts("entry", Games.entry(), 5, 2, 5, 2, 2, 2, 1, 2, 4, 2);
        for (int what = 0; what <= 9; what++) {
            int[] due = {5, 2, 5, 2, 2, 2, 1, 2, 4, 2};
            due("as the first question", Games.entry(), count(what), due[what]);
        }
        counts("64 by 54", Games.fullestAlike(0), 40, 10, 40, 64, 54, 3456, 3456, 10, 3456, 8);
        counts("54 by 64", Games.fullestAlike(1), 40, 10, 40, 54, 64, 3456, 3456, 10, 3456, 8);
        counts("one end", Games.ends(1), 1, 0, 1, 1, 1, 1, 1, 1, 1, 0);
    }

    private static void nodesAndSets() {
        sentence("What = 0 NODES, 1 SETS");
        for (int n = 0; n <= 40; n += 8) {
            due("nodes", Games.ends(n), count(0), n);
        }
        GameRows g = Games.ends(40);
        for (int s = 0; s <= 10; s++) {
            due("sets", g, count(1), s);
            g.set(0, 2);
        }
        due("none refused counts", g, count(1), 10);
    }

    private static void nodesInTree() {
        sentence("2 NODES in THE TREE");
        GameRows g = Games.entry();
        g.end(7, 8);
        counts("an end at last", g, 6, 2, 1, 1, 1, 1, 1, 1, 1, 0);
        due("the tree is put together", g, chance(4, 5, -1), 6);
        counts("a chance over both", g, 7, 2, 7, 2, 2, 2, 1, 3, 4, 3);
        due("none", new GameRows(), count(2), 0);
        due("40 ends, one in the tree", Games.ends(40), count(2), 1);
    }

    private static void plans() {
        sentence("No PLAYER has more than 64 PLANS.");
        due("no set in it", Games.ends(3), count(3), 1);
        due("no set in it", Games.ends(3), count(4), 1);
        due("six of player 0", Games.six(0), count(3), 64);
        due("six of player 0", Games.six(0), count(4), 1);
        due("six of player 1", Games.six(1), count(3), 1);
        due("six of player 1", Games.six(1), count(4), 64);
        due("a set twice counts once", Games.deep(8), count(3), 2);
    }

    private static void points() {
        sentence("5 POINTS, 6 PERFECT POINTS");
        due("none", Games.pennies(), count(5), 0);
        due("none", Games.pennies(), count(6), 0);
        due("one of many", Games.six(0), count(5), 1);
        due("one of many", Games.six(1), count(6), 1);
        due("fewer perfect ones", Games.entry(), count(5), 2);
        due("fewer perfect ones", Games.entry(), count(6), 1);
    }

    private static void gamesWithin() {
        sentence("7 GAMES WITHIN");
        due("the root alone", Games.pennies(), count(7), 1);
        GameRows g = new GameRows();
        g.chance(Games.tower(g, 0, 2, 2, 2, 2, 2), Games.tower(g, 1, 2, 2, 2, 2, 2), -1);
        due("a node of each of all sets, and the root", g, count(7), 11);
    }

    private static void pairsLeft() {
        sentence("8 pairs that are left behind ROUNDS");
        due("one pair", Games.chain(), count(8), 1);
        due("one of 64", Games.six(0), count(8), 1);
        due("one of 64", Games.six(1), count(8), 1);
        due("all", Games.pennies(), count(8), 4);
        GameRows line = Games.atOnce(new int[][] {{0, 0}, {1, 1}, {2, 2}}, new int[3][2]);
        due("one of three, both of two", line, count(8), 2);
    }

    private static void greatestDepth() {
        sentence("DEPTH of THE ROOT is 0, of a CHILD 1 more, 8 at most");
        for (int depth = 0; depth <= 8; depth++) {
            due("so many nodes", Games.deep(depth), count(9), depth);
        }
        GameRows g = Games.deep(3);
        due("the deeper one of two", g, chance(g.end(0, 0), 6, -1), 8);
        due("the deeper one of two", g, count(9), 4);
        due("the deeper one of three", g, chance(g.end(0, 0), g.end(0, 0), 8), 11);
        due("the deeper one of three", g, count(9), 5);
    }

    private static List<Call> badOnes() {
        List<Call> calls = new ArrayList<>();
        for (int what : outOf(0, 9)) {
            calls.add(count(what));
        }
        return calls;
    }

    private static void bad() {
        sentence("BAD");
        refused(Games::entry, BAD, badOnes());
        refused(() -> Games.fullest(0), BAD, badOnes());
    }

    private static void emptyButForThree() {
        sentence("EMPTY (but for 0, 1, 2).");
        emptyWithoutNodes(List.of(count(3), count(4), count(5), count(6), count(7), count(8), count(9)));
        counts("new", new GameRows(), 0, 0, 0);
        counts("sets alone", Games.setsAlone(), 0, 10, 0);
        counts("cleared", Games.cleared(), 0, 0, 0);
        counts("a refused end", Games.endRefused(), 0, 0, 0);
    }

    private static void badBeforeEmpty() {
        sentence("BAD (a number is none, or out of its bounds) first");
        refused(GameRows::new, BAD, badOnes());
        refused(Games::cleared, BAD, badOnes());
    }

    private static void changesNothing() {
        sentence("What is refused changes nothing.");
        GameRows g = Games.entry();
        for (int i = 0; i < 3; i++) {
            counts("again", g, 5, 2, 5, 2, 2, 2, 1, 2, 4, 2);
            due(g, count(10), BAD);
        }
    }
}
