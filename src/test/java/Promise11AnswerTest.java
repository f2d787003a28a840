import java.util.ArrayList;
import java.util.List;

/** Promise 11: answer. */
public final class Promise11AnswerTest extends Promises {
    public static void main(String[] args) {
        start("Promise 11: answer");
        worthMost();
        theLeast();
        mostPlans();
        bad();
        without();
        close();
    }

    private static void worthMost() {
        sentence("THE BEST ANSWER of a PLAYER to a PLAN of the other one.");
        GameRows g = Games.chain();
        int[] best0 = {0, 1, 2};
        int[] best1 = {1, 1, 0};
        for (int plan = 0; plan < 3; plan++) {
            due(g, answer(0, plan), best0[plan]);
            due(g, answer(1, plan), best1[plan]);
        }
        due("one plan alone", Games.ends(1), answer(0, 0), 0);
        due("one plan alone", Games.ends(1), answer(1, 0), 0);
    }

    private static void theLeast() {
        sentence("of the PLANS that are worth most for the PLAYER against it the least.");
        GameRows g = Games.atOnce(new int[][] {{1, -5}, {7, -5}, {7, -5}}, new int[][] {{3, 3}, {-2, 1}, {1, -2}});
        due("the least of two", g, answer(0, 0), 1);
        due("the least of three", g, answer(0, 1), 0);
        due("the least of two", g, answer(1, 0), 0);
        due("the last one alone", g, answer(1, 1), 1);
        due("the first one alone", g, answer(1, 2), 0);
        // 32 parts of 7776 are the least that can be between two.
        GameRows close = new GameRows();
        close.set(0, 2);
        int[] tops = new int[2];
        for (int act = 0; act < 2; act++) {
            tops[act] = close.end(act, 0);
            for (int i = 0; i < 5; i++) {
                tops[act] = close.chance(tops[act], close.end(0, 0), close.end(0, 0));
            }
        }
        close.node(0, tops[0], tops[1], -1);
        due("a little more", close, worth(1, 0, 0), 32);
        due("a little more", close, answer(0, 0), 1);
    }

    private static void mostPlans() {
        sentence("No PLAYER has more than 64 PLANS.");
        due("the last of 64", Games.six(0), answer(0, 0), 63);
        due("the last of 64", Games.six(1), answer(1, 0), 63);
        due("to each of 64", Games.six(0), answer(1, 63), 0);
        due("to each of 64", Games.six(1), answer(0, 63), 0);
        due("the least of 64", Games.fullestAlike(0), answer(0, 53), 0);
        due("the least of 54", Games.fullestAlike(0), answer(1, 63), 0);
        due("the least of 54", Games.fullestAlike(1), answer(0, 63), 0);
        due("the least of 64", Games.fullestAlike(1), answer(1, 53), 0);
    }

    private static void bad() {
        sentence("BAD");
        List<Call> calls = new ArrayList<>();
        for (int player : outOf(0, 1)) {
            calls.add(answer(player, 0));
        }
        for (int plan : outOf(0, 2)) {
            calls.add(answer(0, plan));
            calls.add(answer(1, plan));
        }
        refused(Games::chain, BAD, calls);
        // The PLAN is one of the other PLAYER: 3 PLANS of PLAYER 0, 2 of PLAYER 1, and the other way.
        refused(() -> Games.atOnce(new int[3][2], new int[3][2]), BAD, answer(0, 2), answer(1, 3));
        refused(() -> Games.atOnce(new int[2][3], new int[2][3]), BAD, answer(0, 3), answer(1, 2));
        due("the last plan of the other one", Games.atOnce(new int[3][2], new int[3][2]), answer(1, 2), 0);
        due("the last plan of the other one", Games.atOnce(new int[2][3], new int[2][3]), answer(0, 2), 0);
        refused(() -> Games.fullest(0), BAD, answer(0, 54), answer(0, 63), answer(1, 64));
        refused(() -> Games.fullest(1), BAD, answer(1, 54), answer(1, 63), answer(0, 64));
        refused(() -> Games.ends(1), BAD, answer(0, 1), answer(1, 1), answer(0, -1), answer(2, 0));
    }

    private static void without() {
        sentence("What needs THE TREE is EMPTY without NODES, whatever else is told.");
        List<Call> calls = new ArrayList<>();
        for (int x : new int[] {0, 1, 2, 63, 64, -1, MIN, MAX}) {
            calls.add(answer(x, 0));
            calls.add(answer(0, x));
            calls.add(answer(x, x));
        }
        emptyWithoutNodes(calls);
    }
}
