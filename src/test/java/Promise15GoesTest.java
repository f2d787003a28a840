import java.util.ArrayList;
import java.util.List;

/** Promise 15: goes. */
public final class Promise15GoesTest extends Promises {
    public static void main(String[] args) {
        start("Promise 15: goes");
        againAndAgain();
        bothAtOnce();
        thanSome();
        weaklyWorseStays();
        mostPlans();
        left();
        bad();
        without();
        close();
    }

    private static void rounds(String game, GameRows g, int player, int... due) {
        for (int plan = 0; plan < due.length; plan++) {
            due(game, g, goes(player, plan), due[plan]);
        }
    }

    private static void againAndAgain() {
        sentence("The round (from 1 on) in which a PLAN goes in ROUNDS");
        GameRows g = Games.chain();
        rounds("chain", g, 0, 4, NONE, 2);
        rounds("chain", g, 1, 3, NONE, 1);
        rounds("the last one first", Games.chain(), 1, 3, NONE, 1);
    }

    private static void bothAtOnce() {
        sentence("ROUNDS: all that are WORSE than some go, of both PLAYERS at once, again and again, till none does.");
        GameRows g = Games.atOnce(new int[][] {{3, 0}, {5, 1}}, new int[][] {{3, 5}, {0, 1}});
        rounds("both", g, 0, 1, NONE);
        rounds("both", g, 1, 1, NONE);
        // PLAYER 1'S PLAN 0 is WORSE only when PLAYER 0'S PLAN 0 is gone, which goes in round 1.
        GameRows then = Games.atOnce(new int[][] {{0, 0}, {1, 1}}, new int[][] {{1, 0}, {0, 1}});
        rounds("not in the same round", then, 0, 1, NONE);
        rounds("not in the same round", then, 1, 2, NONE);
        GameRows other = Games.atOnce(new int[][] {{1, 0}, {0, 1}}, new int[][] {{0, 1}, {0, 1}});
        rounds("not in the same round", other, 0, 2, NONE);
        rounds("not in the same round", other, 1, 1, NONE);
    }

    private static void thanSome() {
        sentence("WORSE is a PLAN (of those that are left) than another one (that is left)");
        GameRows line = Games.atOnce(new int[][] {{0, 0}, {1, 1}, {2, 2}}, new int[3][2]);
        rounds("worse than one that goes with it", line, 0, 1, 1, NONE);
        rounds("of the other one", line, 1, NONE, NONE);
    }

    private static void weaklyWorseStays() {
        sentence("worth less for the PLAYER against each PLAN of the other PLAYER that is left");
        GameRows weak = Games.atOnce(new int[][] {{1, 0}, {1, 1}}, new int[2][2]);
        due("weakly worse", weak, than(0, 0, 1), 1);
        rounds("weakly worse", weak, 0, NONE, NONE);
        due("weakly worse", weak, count(8), 4);
    }

    private static void mostPlans() {
        sentence("No PLAYER has more than 64 PLANS.");
        for (int player = 0; player < 2; player++) {
            GameRows g = Games.six(player);
            for (int plan = 0; plan < 63; plan++) {
                due("all but the last one", g, goes(player, plan), 1);
            }
            due("the last one", g, goes(player, 63), NONE);
            due("the one of the other one", g, goes(1 - player, 0), NONE);
            due("one behind the last one", g, goes(player, 64), BAD);
            due("one behind the last one", g, goes(1 - player, 1), BAD);
        }
    }

    private static void left() {
        sentence("NONE: it is left.");
        refused(Games::pennies, NONE, goes(0, 0), goes(0, 1), goes(1, 0), goes(1, 1));
        refused(() -> Games.ends(1), NONE, goes(0, 0), goes(1, 0));
        refused(() -> Games.fullestAlike(0), NONE, goes(0, 0), goes(0, 63), goes(1, 0), goes(1, 53));
    }

    private static void bad() {
        sentence("BAD");
        List<Call> calls = new ArrayList<>();
        for (int player : outOf(0, 1)) {
            calls.add(goes(player, 0));
        }
        for (int plan : outOf(0, 2)) {
            calls.add(goes(0, plan));
            calls.add(goes(1, plan));
        }
        refused(Games::chain, BAD, calls);
        refused(() -> Games.atOnce(new int[3][2], new int[3][2]), BAD, goes(1, 2), goes(0, 3));
        refused(() -> Games.atOnce(new int[2][3], new int[2][3]), BAD, goes(0, 2), goes(1, 3));
        refused(() -> Games.fullest(1), BAD, goes(1, 64), goes(0, 54), goes(0, 63));
    }

    private static void without() {
        sentence("What needs THE TREE is EMPTY without NODES, whatever else is told.");
        List<Call> calls = new ArrayList<>();
        for (int x : new int[] {0, 1, 2, 64, -1, MIN, MAX}) {
            calls.add(goes(x, 0));
            calls.add(goes(0, x));
            calls.add(goes(x, x));
        }
        emptyWithoutNodes(calls);
    }
}
