import java.util.ArrayList;
import java.util.List;

/** Promise 6: node. */
public final class Promise06NodeTest extends Promises {
    public static void main(String[] args) {
        start("Promise 6: node");
        itsNumber();
        childForEachAct();
        cDoesNotCount();
        noSuchSet();
        notThere();
        full();
        hasParent();
        isTwice();
        depth();
        noChance();
        plans();
        plansOfItsTree();
        badFirst();
        fullBeforeTheRest();
        takenBeforeTheRest();
        deepBeforeWrong();
        close();
    }

    /** ENDS, and SETS 0 (2 ACTS) of PLAYER 0 and 1 (3 ACTS) of PLAYER 1. */
    private static GameRows endsAndSets(int ends) {
        GameRows g = Games.ends(ends);
        g.set(0, 2);
        g.set(1, 3);
        return g;
    }

    private static void itsNumber() {
        sentence("A NODE of a SET with a CHILD for each ACT (c does not count, if it has two): its number.");
        due("the least", endsAndSets(2), node(0, 0, 1, -1), 2);
        due("the greatest", endsAndSets(39), node(0, 38, 0, -1), 39);
        due("the greatest of three", endsAndSets(39), node(1, 0, 37, 38), 39);
        GameRows last = Games.ends(2);
        for (int s = 0; s < 10; s++) {
            last.set(1, 2);
        }
        due("of the last set", last, node(9, 0, 1, -1), 2);
        due("of the last set", last, told(2, 1), 9);
    }

    private static void childForEachAct() {
        sentence("a NODE of a SET has a CHILD for each ACT, in order.");
        GameRows g = endsAndSets(8);
        g.node(1, 6, 1, 7);
        int[] children = {6, 1, 7};
        for (int act = 0; act < 3; act++) {
            due(g, told(8, 3 + act), children[act]);
            due(g, worth(0, act, 0), children[act] * PARTS);
        }
        g.node(0, 5, 8, -1);
        due(g, told(9, 3), 5);
        due(g, told(9, 4), 8);
        due(g, told(9, 5), NONE);
        due(g, worth(0, 2, 0), 5 * PARTS);
        due(g, worth(1, 2, 0), 7 * PARTS);
    }

    private static void cDoesNotCount() {
        sentence("(c does not count, if it has two)");
        for (int c : new int[] {-1, 0, 1, 2, 3, 5, 6, 40, -2, MIN, MAX}) {
            GameRows g = endsAndSets(5);
            g.chance(2, -1, -1);
            due(g, node(0, 0, 1, c), 6);
            due("c = " + c, g, told(6, 5), NONE);
            due("c = " + c, g, count(2), 3);
            due("c = " + c, g, told(3, 2), NONE);
        }
        sentence("a NODE of a SET has a CHILD for each ACT");
        due("c does count with three", endsAndSets(3), node(1, 0, 1, -1), BAD);
    }

    private static void noSuchSet() {
        sentence("BAD");
        List<Call> calls = new ArrayList<>();
        for (int s : outOf(0, 1)) {
            calls.add(node(s, 0, 1, 2));
            calls.add(node(s, 0, 1, -1));
        }
        refused(() -> endsAndSets(5), BAD, calls);
        refused(() -> Games.ends(5), BAD, node(0, 0, 1, 2), node(-1, 0, 1, 2), node(1, 0, 1, 2));
        refused(() -> {
            GameRows g = Games.setsAlone();
            g.end(0, 0);
            g.end(0, 0);
            return g;
        }, BAD, node(10, 0, 1, -1), node(-1, 0, 1, -1));
    }

    private static void notThere() {
        sentence("BAD");
        List<Call> calls = new ArrayList<>();
        for (int n : outOf(0, 7)) {
            calls.add(node(0, n, 1, 2));
            calls.add(node(0, 0, n, 2));
            calls.add(node(1, n, 1, 2));
            calls.add(node(1, 0, n, 2));
            calls.add(node(1, 0, 1, n));
        }
        refused(() -> endsAndSets(8), BAD, calls);
        Call[] none = {node(0, 0, 1, -1), node(1, 0, 1, 2), node(0, -1, -1, -1), node(0, 0, 0, 0)};
        refused(GameRows::new, BAD, none);
        refused(Games::setsAlone, BAD, none);
        refused(Games::cleared, BAD, none);
        due("the first and the last", endsAndSets(8), node(0, 0, 7, -1), 8);
        due("the first and the last of three", endsAndSets(8), node(1, 7, 1, 0), 8);
    }

    private static void full() {
        sentence("FULL");
        GameRows g = endsAndSets(39);
        due(g, node(0, 0, 1, -1), 39);
        due(g, node(0, 38, 39, -1), FULL);
        refused(() -> endsAndSets(40), FULL, node(0, 0, 39, -1), node(1, 0, 1, 39));
        refused(() -> Games.filled(Games.entry()), FULL, node(0, 4, 39, -1), node(1, 38, 39, -1));
    }

    private static void hasParent() {
        sentence("TAKEN");
        List<Call> calls = new ArrayList<>();
        for (int taken = 0; taken < 4; taken++) {
            calls.add(node(0, taken, 5, -1));
            calls.add(node(0, 5, taken, -1));
            calls.add(node(1, taken, 4, 5));
            calls.add(node(1, 4, taken, 5));
            calls.add(node(1, 4, 5, taken));
        }
        calls.add(node(0, 7, 2, -1));
        refused(Games::someTaken, TAKEN, calls);
        due("those without a parent", Games.someTaken(), node(1, 7, 6, 4), 9);
    }

    private static void isTwice() {
        sentence("(these have lesser numbers, and no NODE is CHILD of two, or twice)");
        refused(Games::someTaken, TAKEN, node(0, 4, 4, -1), node(0, 4, 4, 5), node(1, 4, 4, 5), node(1, 4, 5, 4),
            node(1, 5, 4, 4), node(1, 4, 4, 4), node(0, 7, 7, -1));
        due("its own number is not there yet", Games.someTaken(), node(0, 4, 9, -1), BAD);
    }

    private static void depth() {
        sentence("DEEP");
        GameRows g = Games.deep(7);
        due("a depth of 8", g, count(9), 7);
        due("a depth of 8", g, node(0, g.end(0, 0), 14, -1), 16);
        due("a depth of 8", g, count(9), 8);
        due("a depth of 9 over it", g, node(0, 16, g.end(0, 0), -1), DEEP);
        // NODES 0 .. 16 of DEPTH 8, and two ENDS.
        refused(() -> {
            GameRows deep = Games.deep(8);
            deep.set(1, 3);
            deep.end(0, 0);
            deep.end(0, 0);
            return deep;
        }, DEEP, node(0, 16, 17, -1), node(0, 17, 16, -1), node(1, 16, 17, 18), node(1, 17, 16, 18), node(1, 17, 18, 16));
    }

    private static void noChance() {
        sentence("not more than 5 CHANCES lie on one way");
        GameRows g = endsAndSets(2);
        int top = Games.chancesAbove(g, 5, 0);
        due("a node over 5 chances", g, node(0, top, 1, -1), 7);
        due("a node over 5 chances", g, count(9), 6);
        due("a second node", g, node(0, 7, g.end(0, 0), -1), 9);
        due("a third one", g, node(0, 9, g.end(0, 0), -1), 11);
        due("of depth 8", g, count(9), 8);
    }

    private static void plans() {
        sentence("WRONG: as chance().");
        int[][] good = {{2, 2, 2, 2, 2}, {3, 3, 3}, {2, 2, 2, 2}};
        int[] goodActs = {2, 2, 3};
        int[] goodPlans = {64, 54, 48};
        int[][] wrong = {{2, 2, 2, 2, 2, 2}, {3, 3, 3}, {2, 2, 2, 3}, {3, 3, 2, 2}, {2, 2, 2, 2, 2}};
        int[] wrongActs = {2, 3, 3, 2, 3};
        for (int player = 0; player < 2; player++) {
            for (int i = 0; i < good.length; i++) {
                GameRows g = new GameRows();
                int top = Games.tower(g, player, good[i]);
                int set = g.set(player, goodActs[i]);
                g.end(0, 0);
                g.end(0, 0);
                due(goodPlans[i] + " plans", g, node(set, top, top + 1, top + 2), top + 3);
                due(goodPlans[i] + " plans", g, count(3 + player), goodPlans[i]);
                due("of the other one", g, count(4 - player), 1);
            }
            for (int i = 0; i < wrong.length; i++) {
                int of = player;
                int[] acts = wrong[i];
                int more = wrongActs[i];
                int top = Games.tower(new GameRows(), player, acts);
                int set = acts.length;
                refused(() -> {
                    GameRows g = new GameRows();
                    Games.tower(g, of, acts);
                    g.set(of, more);
                    g.end(0, 0);
                    g.end(0, 0);
                    return g;
                }, WRONG, node(set, top, top + 1, top + 2), node(set, top + 1, top, top + 2));
            }
        }
    }

    private static void plansOfItsTree() {
        sentence("WRONG: as chance().");
        for (int player = 0; player < 2; player++) {
            GameRows g = new GameRows();
            int top = Games.tower(g, player, 2, 2, 2, 2, 2, 2);
            int more = g.set(player, 2);
            int other = g.set(1 - player, 3);
            int spare = g.end(0, 0);
            due("128 plans", g, node(more, top, spare, -1), WRONG);
            due("a set that is in it already", g, node(3, top, spare, -1), spare + 1);
            due("64 still", g, count(3 + player), 64);
            due("a set of the other one", g, node(other, spare + 1, g.end(0, 0), g.end(0, 0)), spare + 4);
            due("64 and", g, count(3 + player), 64);
            due("3", g, count(4 - player), 3);
            due("the set that was refused, in another tree", g, node(more, g.end(0, 0), g.end(0, 0), -1), spare + 7);
            due("2 plans there", g, count(3 + player), 2);
        }
    }

    private static void badFirst() {
        sentence("BAD (a number is none, or out of its bounds) first");
        refused(() -> Games.filled(Games.brink()), BAD, node(7, 18, 22, -1), node(-1, 22, 22, -1), node(6, 0, 40, -1),
            node(6, 40, 0, -1), node(6, 18, -1, -1), node(7, 0, 0, -1));
        refused(Games::brink, BAD, node(7, 18, 22, -1), node(7, 0, 22, -1), node(6, 0, 23, -1), node(6, 18, 23, -1),
            node(6, -1, 18, -1), node(-1, 18, 18, -1));
        // With NODES 13 and 14 there it would be WRONG: 128 PLANS, or 192.
        refused(() -> {
            GameRows g = new GameRows();
            Games.tower(g, 1, 2, 2, 2, 2, 2, 2);
            g.set(1, 2);
            g.set(1, 3);
            return g;
        }, BAD, node(6, 12, 13, -1), node(6, 13, 12, -1), node(6, -1, 12, -1), node(7, 12, 13, 14), node(8, 12, 13, 14));
    }

    private static void fullBeforeTheRest() {
        sentence("FULL; TAKEN; DEEP; WRONG");
        refused(() -> Games.filled(Games.brink()), FULL, node(6, 0, 22, -1), node(6, 22, 22, -1), node(0, 18, 22, -1),
            node(6, 18, 22, -1), node(6, 18, 0, -1));
        refused(() -> Games.filled(Games.towers(1)), FULL, node(7, 6, 15, -1), node(7, 6, 0, -1));
    }

    private static void takenBeforeTheRest() {
        sentence("TAKEN; DEEP; WRONG");
        refused(Games::brink, TAKEN, node(0, 18, 0, -1), node(6, 18, 0, -1), node(6, 18, 18, -1), node(6, 3, 18, -1));
        // NODE 4 has a parent and 4 PLANS, NODE 15 has 16, SET 7 makes 128 of them.
        refused(() -> Games.towers(0), TAKEN, node(7, 15, 4, -1), node(7, 4, 15, -1), node(0, 15, 5, -1));
    }

    private static void deepBeforeWrong() {
        sentence("DEEP; WRONG");
        refused(Games::brink, DEEP, node(6, 18, 22, -1), node(6, 22, 18, -1), node(0, 18, 21, -1));
        due("deep alone", Games.brink(), node(0, 18, 22, -1), DEEP);
        due("wrong alone", Games.towers(1), node(7, 6, 15, -1), WRONG);
        due("neither", Games.brink(), node(0, 21, 22, -1), 23);
    }
}
