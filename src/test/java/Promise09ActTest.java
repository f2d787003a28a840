import java.util.ArrayList;
import java.util.List;

/** Promise 9: act. */
public final class Promise09ActTest extends Promises {
    public static void main(String[] args) {
        start("Promise 9: act");
        firstCountsMost();
        mostPlans();
        notThePlayers();
        notInIt();
        bad();
        badBeforeNone();
        without();
        close();
    }

    /** PLAYER 0: SETS 1 (3 ACTS) and 2 (2), 3 is not in it; PLAYER 1: SETS 0 (2) and 4 (3). 6 PLANS each. */
    private static GameRows mixed() {
        GameRows g = new GameRows();
        g.set(1, 2);
        g.set(0, 3);
        g.set(0, 2);
        g.set(0, 2);
        g.set(1, 3);
        int top = g.end(0, 0);
        top = Games.above(g, 2, 2, top);
        top = Games.above(g, 4, 3, top);
        top = Games.above(g, 0, 2, top);
        Games.above(g, 1, 3, top);
        return g;
    }

    private static void firstCountsMost() {
        sentence("the ACT of the first such SET counts most, as in a number whose digits have as many values");
        GameRows g = mixed();
        for (int plan = 0; plan < 6; plan++) {
            due(g, act(0, plan, 1), plan / 2);
            due(g, act(0, plan, 2), plan % 2);
            due(g, act(1, plan, 0), plan / 3);
            due(g, act(1, plan, 4), plan % 3);
        }
    }

    private static void mostPlans() {
        sentence("No PLAYER has more than 64 PLANS.");
        for (int most = 0; most < 2; most++) {
            GameRows g = Games.fullest(most);
            for (int plan = 0; plan < 64; plan++) {
                for (int s = 0; s < 6; s++) {
                    due(g, act(most, plan, s), plan >> 5 - s & 1);
                }
            }
            due("the plan behind the last one", g, act(most, 64, 0), BAD);
            GameRows h = Games.fullest(most);
            int other = 1 - most;
            for (int plan = 0; plan < 54; plan++) {
                due(h, act(other, plan, 6), plan / 27);
                due(h, act(other, plan, 7), plan / 9 % 3);
                due(h, act(other, plan, 8), plan / 3 % 3);
                due(h, act(other, plan, 9), plan % 3);
            }
            due("the plan behind the last one", h, act(other, 54, 6), BAD);
        }
    }

    private static void notThePlayers() {
        sentence("NONE: the SET is not the PLAYER'S");
        refused(Promise09ActTest::mixed, NONE, act(0, 0, 0), act(0, 5, 0), act(0, 0, 4), act(0, 5, 4), act(1, 0, 1),
            act(1, 5, 1), act(1, 0, 2), act(1, 5, 2));
        due("neither the player's nor in it", mixed(), act(1, 5, 3), NONE);
    }

    private static void notInIt() {
        sentence("or not IN IT");
        refused(Promise09ActTest::mixed, NONE, act(0, 0, 3), act(0, 5, 3));
        GameRows g = mixed();
        g.end(0, 0);
        for (int s = 0; s < 5; s++) {
            due("in the tree of an end", g, act(0, 0, s), NONE);
            due("in the tree of an end", g, act(1, 0, s), NONE);
        }
        GameRows put = mixed();
        due("a node of it in another tree", put, node(3, put.end(0, 0), put.end(0, 0), -1), 13);
        due("it is in that one", put, act(0, 1, 3), 1);
        due("and the others are not", put, act(0, 1, 1), NONE);
    }

    private static void bad() {
        sentence("BAD");
        List<Call> calls = new ArrayList<>();
        for (int player : outOf(0, 1)) {
            calls.add(act(player, 0, 0));
        }
        for (int plan : outOf(0, 5)) {
            calls.add(act(0, plan, 1));
            calls.add(act(1, plan, 0));
        }
        for (int s : outOf(0, 4)) {
            calls.add(act(0, 0, s));
            calls.add(act(1, 5, s));
        }
        refused(Promise09ActTest::mixed, BAD, calls);
        refused(() -> Games.ends(2), BAD, act(0, 0, 0), act(1, 0, 0), act(0, 0, -1), act(0, 1, 0));
        refused(() -> Games.fullest(0), BAD, act(0, 0, 10), act(1, 0, 10), act(0, 64, 0), act(1, 54, 9), act(1, 63, 9));
    }

    private static void badBeforeNone() {
        sentence("BAD (a number is none, or out of its bounds) first");
        refused(Promise09ActTest::mixed, BAD, act(0, 6, 0), act(0, -1, 3), act(1, 6, 1), act(2, 0, 3), act(-1, 0, 3));
        GameRows g = mixed();
        g.end(0, 0);
        due("plan 1 is not there", g, act(0, 1, 1), BAD);
    }

    private static void without() {
        sentence("What needs THE TREE is EMPTY without NODES, whatever else is told.");
        List<Call> calls = new ArrayList<>();
        for (int x : new int[] {0, 1, 2, 9, 10, 64, -1, MIN, MAX}) {
            calls.add(act(x, 0, 0));
            calls.add(act(0, x, 0));
            calls.add(act(0, 0, x));
            calls.add(act(x, x, x));
        }
        emptyWithoutNodes(calls);
    }
}
