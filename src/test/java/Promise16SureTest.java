import java.util.ArrayList;
import java.util.List;

/** Promise 16: sure. */
public final class Promise16SureTest extends Promises {
    public static void main(String[] args) {
        start("Promise 16: sure");
        greatestOfTheLeast();
        leastAndGreatest();
        mostPlans();
        badAsEmpty();
        without();
        close();
    }

    private static void greatestOfTheLeast() {
        sentence("the greatest WORTH that some PLAN has against any PLAN of the other one, at least.");
        due("chain", Games.chain(), sure(0), 2 * PARTS);
        due("chain", Games.chain(), sure(1), 2 * PARTS);
        due("pennies", Games.pennies(), sure(0), -PARTS);
        due("pennies", Games.pennies(), sure(1), -PARTS);
        int[][] worths = {{-100, 90}, {-60, -70}};
        GameRows g = Games.atOnce(worths, Games.negated(worths));
        due("by the last plan, against the last one", g, sure(0), -70 * PARTS);
        due("by the first plan, against the last one", g, sure(1), 60 * PARTS);
        GameRows first = Games.atOnce(new int[][] {{3, 9, 9}, {9, 2, 9}}, new int[][] {{1, 5, 0}, {2, 4, 9}});
        due("by the first plan, against the first one", first, sure(0), 3 * PARTS);
        due("by the middle plan, against the last one", first, sure(1), 4 * PARTS);
    }

    private static void leastAndGreatest() {
        sentence("-100 .. 100");
        for (int worth : new int[] {-100, -1, 0, 100}) {
            GameRows g = new GameRows();
            g.end(worth, -worth);
            due("an end", g, sure(0), worth * PARTS);
            due("an end", g, sure(1), -worth * PARTS);
        }
    }

    private static void mostPlans() {
        sentence("No PLAYER has more than 64 PLANS.");
        for (int player = 0; player < 2; player++) {
            due("by plan 63", Games.six(player), sure(player), 36 * PARTS);
            due("of the other one", Games.six(player), sure(1 - player), 0);
            due("all alike", Games.fullestAlike(player), sure(0), 0);
            due("all alike", Games.fullestAlike(player), sure(1), -40 * PARTS);
        }
        due("against plan 63", Games.sixAgainst0(), sure(0), -36 * PARTS);
    }

    private static void badAsEmpty() {
        sentence("BAD, EMPTY: as EMPTY.");
        List<Call> calls = new ArrayList<>();
        for (int player : outOf(0, 1)) {
            calls.add(sure(player));
        }
        refused(Games::chain, EMPTY, calls);
        refused(() -> Games.fullest(0), EMPTY, calls);
    }

    private static void without() {
        sentence("What needs THE TREE is EMPTY without NODES, whatever else is told.");
        emptyWithoutNodes(List.of(sure(0), sure(1), sure(2), sure(-1), sure(MIN), sure(MAX)));
    }
}
