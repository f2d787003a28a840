import java.util.ArrayList;
import java.util.List;

/** Promise 14: than. */
public final class Promise14ThanTest extends Promises {
    public static void main(String[] args) {
        start("Promise 14: than");
        worse();
        worseAgainstAll();
        weakly();
        one();
        oneForBoth();
        leastPlan();
        mostPlans();
        bad();
        without();
        close();
    }

    private static void rows(String game, GameRows g, int player, int what, int... due) {
        for (int plan = 0; plan < due.length; plan++) {
            due(game, g, than(player, plan, what), due[plan]);
        }
    }

    private static void worse() {
        sentence("if it is worth less for the PLAYER against each PLAN of the other PLAYER that is left");
        GameRows g = Games.atOnce(new int[][] {{1, 1}, {2, 1}, {3, 2}}, new int[][] {{0, 0}, {0, 0}, {0, 1}});
        rows("as much against one is not worse", g, 0, 0, 2, 2, NONE);
        rows("less against one is not worse", g, 1, 0, NONE, NONE);
        // The first PLAN of the other one alone, or the last one alone, is against it.
        GameRows first = Games.atOnce(new int[][] {{1, 0, 0}, {1, 1, 1}}, new int[2][3]);
        rows("as much against the first one", first, 0, 0, NONE, NONE);
        GameRows last = Games.atOnce(new int[][] {{0, 0, 1}, {1, 1, 1}}, new int[2][3]);
        rows("as much against the last one", last, 0, 0, NONE, NONE);
        GameRows of1 = Games.atOnce(new int[3][2], new int[][] {{1, 2}, {3, 4}, {5, 5}});
        rows("as much against the last one", of1, 1, 0, NONE, NONE);
        due("one plan alone", Games.ends(1), than(0, 0, 0), NONE);
    }

    private static void worseAgainstAll() {
        sentence("Against all PLANS");
        GameRows g = Games.chain();
        rows("chain", g, 0, 0, NONE, NONE, NONE);
        rows("chain", g, 1, 0, NONE, NONE, 1);
        due("also those that go in rounds", g, goes(0, 2), 2);
        due("also those that go in rounds", g, than(0, 2, 0), NONE);
        due("also those that go in rounds", g, than(0, 2, 1), NONE);
    }

    private static void weakly() {
        sentence("WEAKLY: not more against any, less against one at least.");
        GameRows g = Games.atOnce(new int[][] {{1, 1}, {2, 1}, {3, 2}}, new int[][] {{0, 0}, {0, 0}, {0, 1}});
        rows("less against one", g, 0, 1, 1, 2, NONE);
        rows("less against one", g, 1, 1, 1, NONE);
        GameRows alike = Games.atOnce(new int[2][2], new int[2][2]);
        rows("less against none", alike, 0, 1, NONE, NONE);
        rows("less against none", alike, 1, 1, NONE, NONE);
        GameRows more = Games.atOnce(new int[][] {{0, 0, 1}, {5, 5, 0}}, new int[2][3]);
        rows("more against one", more, 0, 1, NONE, NONE);
        GameRows worse = Games.atOnce(new int[][] {{0, 0}, {1, 1}}, new int[2][2]);
        rows("what is worse is weakly so", worse, 0, 1, 1, NONE);
    }

    private static void one() {
        sentence("2 the least PLAN that is ONE with it (itself, or a lesser one)");
        // PLAYER 0'S inner SET does not matter if the outer ACT is 0.
        GameRows g = new GameRows();
        g.set(0, 2);
        g.set(0, 2);
        g.set(1, 2);
        int inner = g.node(1, g.end(1, 2), g.end(3, 4), -1);
        int reply = g.node(2, inner, g.end(0, 1), -1);
        g.node(0, g.end(5, 5), reply, -1);
        rows("0 and 1 are one", g, 0, 2, 0, 0, 2, 3);
        rows("no other", g, 1, 2, 0, 1);
        rows("chain", Games.chain(), 0, 2, 0, 1, 2);
        due("one plan alone", Games.ends(1), than(1, 0, 2), 0);
    }

    private static void oneForBoth() {
        sentence("PLANS are ONE, if each pair with any PLAN of the other PLAYER comes to the same");
        int[][] same = {{1, 2}, {1, 2}, {1, 2}};
        rows("alike for 0 alone", Games.atOnce(same, new int[][] {{0, 0}, {0, 1}, {0, 0}}), 0, 2, 0, 1, 0);
        rows("alike for 1 alone", Games.atOnce(new int[][] {{0, 0}, {0, 1}}, new int[][] {{3, 3}, {4, 4}}), 1, 2, 0, 1);
        GameRows columns = Games.atOnce(new int[][] {{1, 1, 1}, {2, 7, 2}}, new int[][] {{0, 0, 0}, {5, 5, 5}});
        rows("alike against the first one alone", columns, 1, 2, 0, 1, 0);
        GameRows lines = Games.atOnce(new int[][] {{1, 2}, {7, 2}, {1, 2}}, new int[3][2]);
        rows("alike against the last one alone", lines, 0, 2, 0, 1, 0);
    }

    private static void leastPlan() {
        sentence("what = 0 the least PLAN than which a PLAN of a PLAYER is WORSE, 1 WEAKLY so");
        int[][] worths = {{5, 5}, {0, 0}, {6, 6}};
        GameRows g = Games.atOnce(worths, Games.negated(worths));
        rows("the least of two", g, 0, 0, 2, 0, NONE);
        rows("the least of two", g, 0, 1, 2, 0, NONE);
        GameRows behind = Games.atOnce(new int[3][3], new int[][] {{2, 3, 4}, {2, 3, 4}, {2, 3, 4}});
        rows("the least of two, both behind it", behind, 1, 0, 1, 2, NONE);
        rows("the least of three that are one", Games.atOnce(new int[3][3], new int[3][3]), 1, 2, 0, 0, 0);
    }

    private static void mostPlans() {
        sentence("No PLAYER has more than 64 PLANS.");
        for (int player = 0; player < 2; player++) {
            GameRows g = Games.six(player);
            for (int plan = 0; plan < 63; plan++) {
                int least = 0;
                while (Integer.bitCount(least) <= Integer.bitCount(plan)) {
                    least++;
                }
                int first = (1 << Integer.bitCount(plan)) - 1;
                due("the least with more acts of 1", g, than(player, plan, 0), least);
                due("the least with more acts of 1", g, than(player, plan, 1), least);
                due("the least with as many acts of 1", g, than(player, plan, 2), first);
            }
            due("the last one is worse than none", g, than(player, 63, 0), NONE);
            due("the last one is worse than none", g, than(player, 63, 1), NONE);
            due("the last one is one with none", g, than(player, 63, 2), 63);
            GameRows alike = Games.fullestAlike(player);
            due("all are one", alike, than(player, 63, 2), 0);
            due("all are one", alike, than(1 - player, 53, 2), 0);
            due("none is worse", alike, than(player, 63, 1), NONE);
        }
    }

    private static void bad() {
        sentence("BAD");
        List<Call> calls = new ArrayList<>();
        for (int player : outOf(0, 1)) {
            calls.add(than(player, 0, 0));
            calls.add(than(player, 0, 2));
        }
        for (int plan : outOf(0, 2)) {
            calls.add(than(0, plan, 0));
            calls.add(than(1, plan, 1));
            calls.add(than(1, plan, 2));
        }
        for (int what : outOf(0, 2)) {
            calls.add(than(0, 0, what));
            calls.add(than(1, 2, what));
        }
        refused(Games::chain, BAD, calls);
        refused(() -> Games.atOnce(new int[3][2], new int[3][2]), BAD, than(1, 2, 0), than(0, 3, 2), than(1, 2, 2));
        refused(() -> Games.atOnce(new int[2][3], new int[2][3]), BAD, than(0, 2, 0), than(1, 3, 2), than(0, 2, 2));
        refused(() -> Games.fullest(0), BAD, than(0, 64, 0), than(1, 54, 1), than(1, 63, 2), than(0, 63, 3));
    }

    private static void without() {
        sentence("What needs THE TREE is EMPTY without NODES, whatever else is told.");
        List<Call> calls = new ArrayList<>();
        for (int x : new int[] {0, 1, 2, 3, 64, -1, MIN, MAX}) {
            calls.add(than(x, 0, 0));
            calls.add(than(0, x, 0));
            calls.add(than(0, 0, x));
            calls.add(than(x, x, x));
        }
        emptyWithoutNodes(calls);
    }
}
