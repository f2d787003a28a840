import java.util.ArrayList;
import java.util.List;

/** Promise 19: bound. */
public final class Promise19BoundTest extends Promises {
    public static void main(String[] args) {
        start("Promise 19: bound");
        roundByRound();
        low();
        high();
        forPlayer0();
        leastAndGreatest();
        rounds();
        mostPlans();
        anotherTree();
        badAsEmpty();
        without();
        close();
    }

    private static void bounds(String game, GameRows g, int rounds, int low, int high) {
        due(game, g, bound(rounds, 0), low * PARTS);
        due(game, g, bound(rounds, 1), high * PARTS);
    }

    private static void roundByRound() {
        sentence("what = 0 THE LOW, 1 THE HIGH.");
        int[] lows = {-1, -2, -3, -2, -1, 0, -1, -2};
        int[] highs = {1, 0, 1, 2, 3, 4, 3, 2};
        GameRows rising = Games.pennies();
        GameRows falling = Games.pennies();
        for (int r = 1; r <= 8; r++) {
            bounds("pennies", rising, r, lows[r - 1], highs[r - 1]);
            bounds("pennies, from the last one on", falling, 9 - r, lows[8 - r], highs[8 - r]);
        }
    }

    private static void low() {
        sentence("THE LOW: the least, of all PLANS of PLAYER 1");
        GameRows never = Games.atOnce(new int[][] {{5, 9, -7}, {4, 8, 6}, {3, 1, 2}},
            new int[][] {{3, 2, 1}, {3, 2, 1}, {3, 2, 1}});
        due("a plan that was never taken", never, taken(200, 1, 2), 0);
        due("a plan that was never taken", never, bound(200, 0), -1400 * PARTS);
        GameRows last = Games.atOnce(new int[][] {{5, 6, 4}, {1, 1, 1}}, new int[][] {{1, 0, 0}, {0, 0, 0}});
        due("the last one", last, bound(10, 0), 40 * PARTS);
        GameRows first = Games.atOnce(new int[][] {{2, 6}, {1, 1}}, new int[2][2]);
        due("the first one", first, bound(10, 0), 20 * PARTS);
        GameRows twice = Games.atOnce(new int[][] {{5, 4}, {1, 1}, {6, 0}}, new int[][] {{1, 0}, {0, 0}, {1, 0}});
        due("plan 2 from round 2 on", twice, taken(10, 0, 2), 9);
        due("what was taken often counts as often", twice, bound(10, 0), 4 * PARTS);
    }

    private static void high() {
        sentence("THE HIGH: the greatest, of all PLANS of PLAYER 0");
        GameRows never = Games.atOnce(new int[][] {{5, 0}, {0, 9}}, new int[][] {{1, 0}, {1, 0}});
        due("against what was taken alone", never, bound(10, 1), 50 * PARTS);
        GameRows last = Games.atOnce(new int[][] {{5, 4}, {1, 1}, {6, 0}}, new int[][] {{1, 0}, {0, 0}, {1, 0}});
        due("the last one", last, bound(1, 1), 6 * PARTS);
        GameRows twice = Games.atOnce(new int[][] {{1, 0}, {0, 7}}, new int[][] {{0, 1}, {0, 1}});
        due("what was taken often counts as often", twice, bound(5, 1), 28 * PARTS);
    }

    private static void forPlayer0() {
        sentence("are worth for PLAYER 0, together, against that one");
        GameRows g = Games.atOnce(new int[][] {{2, 0}, {3, 1}}, new int[][] {{20, 30}, {0, 10}});
        due("0 took", g, taken(3, 0, 1), 2);
        due("1 took", g, taken(3, 1, 1), 2);
        bounds("not of opposite worths", g, 3, 2, 5);
    }

    private static void leastAndGreatest() {
        sentence("THE HIGH");
        for (int worth : new int[] {-100, 100}) {
            GameRows g = new GameRows();
            g.end(worth, -worth);
            bounds("an end", g, 1, worth, worth);
            bounds("an end", g, 200, 200 * worth, 200 * worth);
        }
    }

    private static void rounds() {
        sentence("Behind so many ANSWERING ROUNDS");
        GameRows g = Games.ends(4);
        for (int rounds : new int[] {1, 2, 199, 200}) {
            bounds("an end", g, rounds, 3 * rounds, 3 * rounds);
        }
        GameRows pennies = Games.pennies();
        bounds("one round", pennies, 1, -1, 1);
        holds("200 rounds", pennies.bound(200, 0) <= 0 && pennies.bound(200, 1) >= 0);
        for (int what = 0; what < 2; what++) {
            due("none", pennies, bound(0, what), EMPTY);
            due("one too many", pennies, bound(201, what), EMPTY);
        }
    }

    private static void mostPlans() {
        sentence("No PLAYER has more than 64 PLANS.");
        bounds("plan 0 once and plan 63 of player 0", Games.six(0), 200, 199 * 36, 200 * 36);
        bounds("worth nothing for player 0", Games.six(1), 200, 0, 0);
        bounds("all alike", Games.fullestAlike(0), 200, 0, 0);
        bounds("plan 63 of player 1", Games.sixAgainst0(), 10, -360, -9 * 36);
    }

    private static void anotherTree() {
        sentence("Behind so many ANSWERING ROUNDS");
        GameRows g = Games.pennies();
        bounds("pennies", g, 6, 0, 4);
        g.end(3, 4);
        bounds("an end", g, 6, 18, 18);
        g.chance(6, 7, -1);
        bounds("both", g, 6, 9, 11);
    }

    private static void badAsEmpty() {
        sentence("BAD, EMPTY: as EMPTY.");
        List<Call> calls = new ArrayList<>();
        for (int rounds : outOf(1, 200)) {
            calls.add(bound(rounds, 0));
            calls.add(bound(rounds, 1));
        }
        for (int what : outOf(0, 1)) {
            calls.add(bound(1, what));
            calls.add(bound(200, what));
        }
        refused(Games::pennies, EMPTY, calls);
        refused(() -> Games.fullest(0), EMPTY, bound(0, 0), bound(201, 1), bound(200, 2), bound(200, -1), bound(0, 2));
    }

    private static void without() {
        sentence("What needs THE TREE is EMPTY without NODES, whatever else is told.");
        List<Call> calls = new ArrayList<>();
        for (int x : new int[] {0, 1, 2, 200, 201, -1, MIN, MAX}) {
            calls.add(bound(x, 0));
            calls.add(bound(1, x));
            calls.add(bound(x, x));
        }
        emptyWithoutNodes(calls);
    }
}
