import java.util.ArrayList;
import java.util.List;

/** Promise 12: point. */
public final class Promise12PointTest extends Promises {
    public static void main(String[] args) {
        start("Promise 12: point");
        byRisingPlans();
        noneIsWorthMore();
        perfectAlone();
        perfectInEachGameWithin();
        planCountsAsFarAsItsSetsAreThere();
        allPairs();
        none();
        without();
        close();
    }

    private static void rowOfPoints(String game, GameRows g, boolean perfect, int... due) {
        for (int k = 0; k < due.length; k++) {
            due(game, g, point(perfect, k), due[k]);
        }
        for (int k : outOf(0, due.length - 1)) {
            due(game, g, point(perfect, k), NONE);
        }
        due(game, g, count(perfect ? 6 : 5), due.length);
    }

    private static void byRisingPlans() {
        sentence("POINT k, by rising PLANS of PLAYER 0, then 1: 64 times the first one and the second one");
        int[][] both = {{2, 0}, {0, 1}};
        rowOfPoints("both", Games.atOnce(both, both), false, 0, 65);
        rowOfPoints("2 by 3, all alike", Games.atOnce(new int[2][3], new int[2][3]), false, 0, 1, 2, 64, 65, 66);
        rowOfPoints("3 by 2, all alike", Games.atOnce(new int[3][2], new int[3][2]), false, 0, 1, 64, 65, 128, 129);
        rowOfPoints("an end", Games.ends(1), false, 0);
        rowOfPoints("an end", Games.ends(1), true, 0);
        rowOfPoints("the last of 64", Games.six(0), false, 63 * 64);
        rowOfPoints("the last of 64", Games.six(1), false, 63);
    }

    private static void noneIsWorthMore() {
        sentence("A POINT is a pair of PLANS such that none is worth more for its PLAYER against the other one.");
        rowOfPoints("pennies", Games.pennies(), false);
        rowOfPoints("chain", Games.chain(), false, 65);
        rowOfPoints("both would leave", Games.atOnce(new int[][] {{3, 0}, {5, 1}}, new int[][] {{3, 5}, {0, 1}}), false, 65);
        // PLAYER 0 alone, or PLAYER 1 alone, would leave a pair; worth as much is not worth more.
        rowOfPoints("0 would leave", Games.atOnce(new int[][] {{0, 0}, {1, 0}}, new int[2][2]), false, 1, 64, 65);
        rowOfPoints("1 would leave", Games.atOnce(new int[2][2], new int[][] {{0, 1}, {0, 0}}), false, 1, 64, 65);
    }

    private static void perfectAlone() {
        sentence("perfect: PERFECT ones alone.");
        rowOfPoints("entry", Games.entry(), false, 0, 65);
        rowOfPoints("entry", Games.entry(), true, 65);
        rowOfPoints("pennies", Games.pennies(), true);
        GameRows g = Games.entry();
        due("perfect first", g, point(true, 0), 65);
        due("then the others", g, point(false, 0), 0);
        due("then perfect", g, point(true, 1), NONE);
        due("then the others", g, point(false, 1), 65);
        due("then a worth", g, worth(0, 1, 1), 2 * PARTS);
    }

    /** PLAYER 0 stays out (2, 2), or both choose at once: (3, 1) and (1, 3) are the points there. */
    private static void perfectInEachGameWithin() {
        sentence("A PERFECT POINT is a pair of PLANS that is a POINT in each GAME WITHIN");
        GameRows g = new GameRows();
        g.set(0, 2);
        g.set(0, 2);
        g.set(1, 2);
        int up = g.node(2, g.end(3, 1), g.end(0, 0), -1);
        int down = g.node(2, g.end(0, 0), g.end(1, 3), -1);
        int inner = g.node(1, up, down, -1);
        g.node(0, g.end(2, 2), inner, -1);
        rowOfPoints("out or at once", g, false, 1, 65, 128);
        rowOfPoints("out or at once", g, true, 65, 128);
        // A POINT of each GAME WITHIN below it that is none of THE TREE is not PERFECT.
        GameRows root = new GameRows();
        root.set(0, 2);
        root.set(1, 2);
        int low = root.node(1, root.end(1, 0), root.end(2, 0), -1);
        root.node(0, root.end(1, 1), low, -1);
        rowOfPoints("the root counts", root, true, 0, 64, 65);
    }

    private static void planCountsAsFarAsItsSetsAreThere() {
        sentence("(PLANS count there as far as their SETS are there)");
        GameRows g = Games.entry();
        g.set(1, 2);
        int side = g.node(2, g.end(0, 4), g.end(0, 5), -1);
        g.chance(4, side, -1);
        rowOfPoints("with a side game", g, false, 1, 67);
        rowOfPoints("with a side game", g, true, 67);
        // The SET of the inner game stands between two of the same PLAYER: its digit is the middle one.
        GameRows middle = new GameRows();
        for (int s = 0; s < 3; s++) {
            middle.set(0, 2 + s % 2);
        }
        int[] parts = new int[3];
        for (int s = 0; s < 3; s++) {
            int end = middle.end(s == 1 ? 0 : 9, 0);
            parts[s] = middle.node(s, end, middle.end(1, 0), s == 1 ? middle.end(5, 0) : -1);
        }
        middle.chance(parts[0], parts[1], parts[2]);
        rowOfPoints("act 0, act 2, act 0", middle, true, 64 * 4);
    }

    private static void allPairs() {
        sentence("No PLAYER has more than 64 PLANS.");
        for (boolean perfect : new boolean[] {false, true}) {
            GameRows g = Games.fullestAlike(0);
            GameRows h = Games.fullestAlike(1);
            for (int k = 0; k < 3456; k += 31) {
                due("64 by 54", g, point(perfect, k), k / 54 * 64 + k % 54);
                due("54 by 64", h, point(perfect, k), k);
            }
            due("64 by 54", g, point(perfect, 53), 53);
            due("64 by 54", g, point(perfect, 54), 64);
            due("54 by 64", h, point(perfect, 63), 63);
            due("the last of 64 by 54", g, point(perfect, 3455), 63 * 64 + 53);
            due("the last of 54 by 64", h, point(perfect, 3455), 53 * 64 + 63);
            for (int k : outOf(0, 3455)) {
                due("64 by 54", g, point(perfect, k), NONE);
                due("54 by 64", h, point(perfect, k), NONE);
            }
        }
    }

    private static void none() {
        sentence("NONE");
        List<Call> calls = new ArrayList<>();
        for (int k : outOf(0, 1)) {
            calls.add(point(false, k));
            calls.add(point(true, k));
        }
        calls.add(point(true, 1));
        refused(Games::entry, NONE, calls);
        refused(Games::pennies, NONE, point(false, 0), point(true, 0), point(false, -1), point(true, MIN), point(true, MAX));
        refused(() -> Games.fullestAlike(1), NONE, point(false, 3456), point(true, 3456), point(false, -1), point(true, 4096));
    }

    private static void without() {
        sentence("What needs THE TREE is EMPTY without NODES, whatever else is told.");
        List<Call> calls = new ArrayList<>();
        for (int k : new int[] {0, 1, -1, 4095, MIN, MAX}) {
            calls.add(point(false, k));
            calls.add(point(true, k));
        }
        emptyWithoutNodes(calls);
    }
}
