/** Promises 18 and 19: ANSWERING ROUNDS, worked by hand, and their edges. */
public final class AnsweringTest {
    private static final int PARTS = 7776;
    private static final Check check = new Check("AnsweringTest");

    // Of pennies, round by round; ties go to the lesser PLAN.
    private static final int[] PICKS0 = {0, 0, 0, 1, 1, 1, 1, 1};
    private static final int[] PICKS1 = {0, 1, 1, 1, 1, 1, 0, 0};
    private static final int[] LOWS = {-1, -2, -3, -2, -1, 0, -1, -2};
    private static final int[] HIGHS = {1, 0, 1, 2, 3, 4, 3, 2};

    public static void main(String[] args) {
        pennies();
        unlike();
        edges();
        anotherTree();
        widest();
        check.close();
    }

    private static void pennies() {
        GameRows rising = Games.pennies();
        GameRows falling = Games.pennies();
        for (int r = 1; r <= 8; r++) {
            penniesBehind(rising, r);
            penniesBehind(falling, 9 - r);
        }
    }

    private static void penniesBehind(GameRows g, int rounds) {
        int ones0 = 0;
        int ones1 = 0;
        for (int r = 0; r < rounds; r++) {
            ones0 += PICKS0[r];
            ones1 += PICKS1[r];
        }
        check.same("0 took 1 in " + rounds, g.taken(rounds, 0, 1), ones0);
        check.same("0 took 0 in " + rounds, g.taken(rounds, 0, 0), rounds - ones0);
        check.same("1 took 1 in " + rounds, g.taken(rounds, 1, 1), ones1);
        check.same("1 took 0 in " + rounds, g.taken(rounds, 1, 0), rounds - ones1);
        check.same("low behind " + rounds, g.bound(rounds, 0), LOWS[rounds - 1] * PARTS);
        check.same("high behind " + rounds, g.bound(rounds, 1), HIGHS[rounds - 1] * PARTS);
    }

    /** Not of opposite worths: both bounds are of what PLAYER 0 gets. */
    private static void unlike() {
        GameRows g = Games.atOnce(new int[][] {{2, 0}, {3, 1}}, new int[][] {{20, 30}, {0, 10}});
        check.same("0 took 0", g.taken(3, 0, 0), 1);
        check.same("0 took 1", g.taken(3, 0, 1), 2);
        check.same("1 took 1", g.taken(3, 1, 1), 2);
        check.same("low", g.bound(3, 0), 2 * PARTS);
        check.same("high", g.bound(3, 1), 5 * PARTS);
        // All PLANS of the other one count in the bounds, also those that were never taken.
        GameRows h = Games.atOnce(new int[][] {{5, 9, -7}, {4, 8, 6}, {3, 1, 2}}, new int[][] {{3, 2, 1}, {3, 2, 1}, {3, 2, 1}});
        check.same("1 never took 2", h.taken(200, 1, 2), 0);
        check.same("low against it", h.bound(200, 0), -1400 * PARTS);
        GameRows wide = Games.atOnce(new int[][] {{5, 6, 4}, {1, 1, 1}}, new int[][] {{1, 0, 0}, {0, 0, 0}});
        check.same("low, 2 and 3 plans", wide.bound(10, 0), 40 * PARTS);
        check.same("high, 2 and 3 plans", wide.bound(10, 1), 50 * PARTS);
        GameRows tall = Games.atOnce(new int[][] {{5, 4}, {1, 1}, {6, 0}}, new int[][] {{1, 0}, {0, 0}, {1, 0}});
        check.same("low, 3 and 2 plans", tall.bound(1, 0), 4 * PARTS);
        check.same("high, 3 and 2 plans", tall.bound(1, 1), 6 * PARTS);
        check.same("low behind 10", tall.bound(10, 0), 4 * PARTS);
        check.same("plan 2 from then on", tall.taken(10, 0, 2), 9);
        check.same("high", h.bound(200, 1), 1000 * PARTS);
    }

    private static void edges() {
        GameRows g = Games.pennies();
        check.same("1 round", g.taken(1, 0, 0), 1);
        check.same("1 round, the other plan", g.taken(1, 0, 1), 0);
        check.same("200 rounds", g.taken(200, 0, 0) + g.taken(200, 0, 1), 200);
        check.same("200 rounds of 1", g.taken(200, 1, 0) + g.taken(200, 1, 1), 200);
        check.holds("low is not over high", g.bound(200, 0) <= 0 && g.bound(200, 1) >= 0);
        for (int rounds : new int[] {0, -1, 201, Integer.MIN_VALUE, Integer.MAX_VALUE}) {
            check.same("taken in " + rounds, g.taken(rounds, 0, 0), GameRows.BAD);
            check.same("low behind " + rounds, g.bound(rounds, 0), GameRows.EMPTY);
            check.same("high behind " + rounds, g.bound(rounds, 1), GameRows.EMPTY);
        }
        for (int other : new int[] {-1, 2, Integer.MIN_VALUE, Integer.MAX_VALUE}) {
            check.same("taken by " + other, g.taken(1, other, 0), GameRows.BAD);
            check.same("taken plan " + other, g.taken(1, 1, other), GameRows.BAD);
            check.same("bound " + other, g.bound(1, other), GameRows.EMPTY);
        }
        GameRows end = new GameRows();
        end.end(-100, 100);
        check.same("the least low", end.bound(200, 0), -200 * 777600);
        check.same("the least high", end.bound(200, 1), -200 * 777600);
        check.same("plan 0 always", end.taken(200, 1, 0), 200);
    }

    private static void anotherTree() {
        GameRows g = Games.pennies();
        check.same("pennies", g.bound(6, 1), 4 * PARTS);
        g.end(3, 4);
        check.same("an end", g.bound(6, 1), 18 * PARTS);
        check.same("its plan", g.taken(6, 0, 0), 6);
        check.same("no plan 1", g.taken(6, 0, 1), GameRows.BAD);
        g.chance(6, 7, -1);
        check.same("both", g.bound(6, 1), 4 * PARTS / 2 + 18 * PARTS / 2);
        check.same("plan 1 again", g.taken(6, 0, 1), 3);
    }

    private static void widest() {
        GameRows g = Games.widest();
        int sum0 = 0;
        int sum1 = 0;
        for (int plan = 0; plan < 64; plan++) {
            sum0 += g.taken(200, 0, plan);
        }
        for (int plan = 0; plan < 54; plan++) {
            sum1 += g.taken(200, 1, plan);
        }
        check.same("all rounds of 0", sum0, 200);
        check.same("all rounds of 1", sum1, 200);
        check.same("plan 64", g.taken(200, 0, 64), GameRows.BAD);
        check.same("plan 54", g.taken(200, 1, 54), GameRows.BAD);
    }
}
