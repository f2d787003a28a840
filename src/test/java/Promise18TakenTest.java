import java.util.ArrayList;
import java.util.List;

/** Promise 18: taken. */
public final class Promise18TakenTest extends Promises {
    public static void main(String[] args) {
        start("Promise 18: taken");
        roundOne();
        laterRounds();
        theLeast();
        together();
        rounds();
        mostPlans();
        anotherTree();
        bad();
        without();
        close();
    }

    private static void roundOne() {
        sentence("in round 1 both take PLAN 0");
        // PLAN 0 is the worst one of both.
        GameRows g = Games.atOnce(new int[][] {{0, 0}, {5, 5}}, new int[][] {{0, 5}, {0, 5}});
        for (int player = 0; player < 2; player++) {
            due(g, taken(1, player, 0), 1);
            due(g, taken(1, player, 1), 0);
            due(g, taken(2, player, 0), 1);
            due(g, taken(2, player, 1), 1);
        }
        due("of 64", Games.six(0), taken(1, 0, 0), 1);
        due("of 64", Games.six(0), taken(1, 0, 63), 0);
    }

    /** Pennies, round by round; ties go to the lesser PLAN. */
    private static void laterRounds() {
        sentence("in each later one each PLAYER takes, of the PLANS that are worth most (for the PLAYER)");
        int[] picks0 = {0, 0, 0, 1, 1, 1, 1, 1};
        int[] picks1 = {0, 1, 1, 1, 1, 1, 0, 0};
        GameRows rising = Games.pennies();
        GameRows falling = Games.pennies();
        int ones0 = 0;
        int ones1 = 0;
        for (int r = 1; r <= 8; r++) {
            ones0 += picks0[r - 1];
            ones1 += picks1[r - 1];
            due(rising, taken(r, 0, 1), ones0);
            due(rising, taken(r, 0, 0), r - ones0);
            due(rising, taken(r, 1, 1), ones1);
            due(rising, taken(r, 1, 0), r - ones1);
        }
        for (int r = 8; r >= 1; r--) {
            due("from the last one on", falling, taken(r, 0, 1), ones0);
            due("from the last one on", falling, taken(r, 1, 1), ones1);
            ones0 -= picks0[r - 1];
            ones1 -= picks1[r - 1];
        }
    }

    private static void theLeast() {
        sentence("against all that the other one took so far, together, the least.");
        GameRows g = Games.atOnce(new int[][] {{0, 0}, {3, 3}, {3, 3}}, new int[3][2]);
        due("the least of two that are best", g, taken(200, 0, 0), 1);
        due("the least of two that are best", g, taken(200, 0, 1), 199);
        due("the least of two that are best", g, taken(200, 0, 2), 0);
        due("the least of all", g, taken(200, 1, 0), 200);
        due("the least of all", g, taken(200, 1, 1), 0);
    }

    /** PLAYER 1 takes 0, then 1 for good; 5 against the 0 weighs more than 2 each against two 1, less than against three. */
    private static void together() {
        sentence("against all that the other one took so far, together");
        GameRows g = Games.atOnce(new int[][] {{5, 0}, {0, 2}}, new int[][] {{0, 1}, {0, 1}});
        int[] picks0 = {0, 0, 0, 0, 1, 1};
        int ones = 0;
        for (int r = 1; r <= 6; r++) {
            ones += picks0[r - 1];
            due(g, taken(r, 1, 0), 1);
            due(g, taken(r, 0, 1), ones);
        }
    }

    private static void rounds() {
        sentence("Behind so many (1 .. 200) ANSWERING ROUNDS");
        for (int player = 0; player < 2; player++) {
            GameRows g = Games.pennies();
            due(g, taken(1, player, 0), 1);
            int zeros = g.taken(200, player, 0);
            due("all of 200", g, taken(200, player, 1), 200 - zeros);
            int before = g.taken(199, player, 0);
            due("all of 199", g, taken(199, player, 1), 199 - before);
            holds("the last round takes one", zeros - before == 0 || zeros - before == 1);
            due("behind the last one", g, taken(201, player, 0), BAD);
            due("before the first one", g, taken(0, player, 0), BAD);
            due("one plan alone", Games.ends(1), taken(200, player, 0), 200);
            due("one plan alone", Games.ends(1), taken(1, player, 0), 1);
        }
    }

    private static void mostPlans() {
        sentence("No PLAYER has more than 64 PLANS.");
        for (int most = 0; most < 2; most++) {
            GameRows six = Games.six(most);
            due("the last of 64 from round 2 on", six, taken(200, most, 63), 199);
            due("the last of 64 from round 2 on", six, taken(200, most, 0), 1);
            due("the one of the other one", six, taken(200, 1 - most, 0), 200);
            GameRows g = Games.fullest(most);
            int sum = 0;
            int sumOther = 0;
            for (int plan = 0; plan < 64; plan++) {
                sum += g.taken(200, most, plan);
            }
            for (int plan = 0; plan < 54; plan++) {
                sumOther += g.taken(200, 1 - most, plan);
            }
            holds("200 rounds of 64 plans, not " + sum, sum == 200);
            holds("200 rounds of 54 plans, not " + sumOther, sumOther == 200);
            due("behind the last one", g, taken(200, most, 64), BAD);
            due("behind the last one", g, taken(200, 1 - most, 54), BAD);
        }
    }

    private static void anotherTree() {
        sentence("ANSWERING ROUNDS: in round 1 both take PLAN 0");
        GameRows g = Games.pennies();
        due("pennies", g, taken(6, 0, 1), 3);
        g.end(3, 4);
        due("an end", g, taken(6, 0, 0), 6);
        due("an end", g, taken(6, 0, 1), BAD);
        g.chance(6, 7, -1);
        due("both", g, taken(6, 0, 1), 3);
    }

    private static void bad() {
        sentence("BAD");
        List<Call> calls = new ArrayList<>();
        for (int rounds : outOf(1, 200)) {
            calls.add(taken(rounds, 0, 0));
            calls.add(taken(rounds, 1, 2));
        }
        for (int player : outOf(0, 1)) {
            calls.add(taken(1, player, 0));
            calls.add(taken(200, player, 0));
        }
        for (int plan : outOf(0, 2)) {
            calls.add(taken(1, 0, plan));
            calls.add(taken(200, 1, plan));
        }
        refused(Games::chain, BAD, calls);
        refused(() -> Games.atOnce(new int[3][2], new int[3][2]), BAD, taken(1, 1, 2), taken(1, 0, 3));
        refused(() -> Games.atOnce(new int[2][3], new int[2][3]), BAD, taken(1, 0, 2), taken(1, 1, 3));
        refused(() -> Games.fullest(0), BAD, taken(201, 0, 63), taken(0, 0, 63), taken(200, 0, 64), taken(200, 1, 63));
    }

    private static void without() {
        sentence("What needs THE TREE is EMPTY without NODES, whatever else is told.");
        List<Call> calls = new ArrayList<>();
        for (int x : new int[] {0, 1, 2, 200, 201, -1, MIN, MAX}) {
            calls.add(taken(x, 0, 0));
            calls.add(taken(1, x, 0));
            calls.add(taken(1, 0, x));
            calls.add(taken(x, x, x));
        }
        emptyWithoutNodes(calls);
    }
}
