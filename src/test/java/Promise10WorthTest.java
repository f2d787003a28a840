import java.util.ArrayList;
import java.util.List;

/** Promise 10: worth. */
public final class Promise10WorthTest extends Promises {
    public static void main(String[] args) {
        start("Promise 10: worth");
        ofEachPair();
        leastAndGreatest();
        whole();
        hiddenChance();
        setTwiceOnAWay();
        mostPlans();
        badAsEmpty();
        without();
        close();
    }

    private static void ofEachPair() {
        sentence("WORTH of a pair of PLANS for a PLAYER.");
        int[][] worths0 = {{5, 1, 0}, {4, 3, 0}, {3, 2, 9}};
        int[][] worths1 = {{0, 2, 1}, {1, 4, 3}, {6, 5, 4}};
        GameRows g = Games.chain();
        for (int i = 0; i < 3; i++) {
            for (int j = 0; j < 3; j++) {
                due(g, worth(i, j, 0), worths0[i][j] * PARTS);
                due(g, worth(i, j, 1), worths1[i][j] * PARTS);
            }
        }
    }

    private static void leastAndGreatest() {
        sentence("the mean of the WORTHS of the ENDS, told in parts of 7776 (6 to the 5)");
        GameRows g = new GameRows();
        g.end(-100, 100);
        due("an end", g, worth(0, 0, 0), -777600);
        due("an end", g, worth(0, 0, 1), 777600);
        GameRows deep = new GameRows();
        int top = deep.end(100, -100);
        for (int i = 0; i < 5; i++) {
            top = deep.chance(top, deep.end(100, -100), deep.end(100, -100));
        }
        due("all ends alike below 5 chances", deep, worth(0, 0, 0), 777600);
        due("all ends alike below 5 chances", deep, worth(0, 0, 1), -777600);
    }

    private static void whole() {
        sentence("which is whole.");
        int[][] sizes = {{1, 1, 1, 1, 1}, {2, 2, 2, 2, 2}, {3, 3, 3, 3, 3}, {2, 3, 2, 3, 2}, {3, 2, 3, 2, 3}, {1, 3, 1, 2, 3}};
        int[] shares = {7776, 243, 32, 108, 72, 432};
        for (int i = 0; i < sizes.length; i++) {
            GameRows g = new GameRows();
            int top = g.end(1, -1);
            for (int size : sizes[i]) {
                int second = size > 1 ? g.end(0, 0) : -1;
                top = g.chance(top, second, size > 2 ? g.end(0, 0) : -1);
            }
            due("the least part of 5 chances", g, worth(0, 0, 0), shares[i]);
            due("the least part of 5 chances", g, worth(0, 0, 1), -shares[i]);
        }
        GameRows mixed = new GameRows();
        int inner = mixed.chance(mixed.end(7, 0), mixed.end(0, 7), mixed.end(-1, 1));
        mixed.chance(mixed.end(100, -100), inner, -1);
        due("3 below 2", mixed, worth(0, 0, 0), 100 * 3888 + 6 * 1296);
        due("3 below 2", mixed, worth(0, 0, 1), -100 * 3888 + 8 * 1296);
    }

    /** PLAYER 0 sees the card (1 of 3), PLAYER 1 does not. */
    private static void hiddenChance() {
        sentence("WORTH of a pair of PLANS for a PLAYER: the mean of the WORTHS of the ENDS");
        GameRows g = new GameRows();
        for (int card = 0; card < 3; card++) {
            g.set(0, 2);
        }
        g.set(1, 2);
        int[] tops = new int[3];
        for (int card = 0; card < 3; card++) {
            int out = g.end(-1, 1);
            int below = g.node(3, g.end(1, -1), g.end(3 * card - 3, 3 - 3 * card), -1);
            tops[card] = g.node(card, out, below, -1);
        }
        g.chance(tops[0], tops[1], tops[2]);
        due("all out", g, worth(0, 0, 0), -PARTS);
        due("all in, 1 yields", g, worth(7, 0, 0), PARTS);
        due("all in, 1 calls", g, worth(7, 1, 0), 0);
        due("the best card in, 1 calls", g, worth(1, 1, 0), (-1 - 1 + 3) * PARTS / 3);
        due("the worst card in, 1 calls", g, worth(4, 1, 1), (3 + 1 + 1) * PARTS / 3);
    }

    private static void setTwiceOnAWay() {
        sentence("A PLAN of a PLAYER names an ACT for each of the PLAYER'S SETS that are IN IT");
        GameRows g = new GameRows();
        g.set(0, 2);
        int below = g.node(0, g.end(1, 1), g.end(4, 4), -1);
        g.node(0, below, g.end(2, 2), -1);
        due("act 0 at both", g, worth(0, 0, 0), PARTS);
        due("act 1", g, worth(1, 0, 0), 2 * PARTS);
        due("there is no plan of 0 and 1", g, worth(2, 0, 0), EMPTY);
    }

    private static void mostPlans() {
        sentence("No PLAYER has more than 64 PLANS.");
        for (int player = 0; player < 2; player++) {
            GameRows g = Games.six(player);
            for (int plan = 0; plan < 64; plan++) {
                int own = 6 * Integer.bitCount(plan) * PARTS;
                due(g, player == 0 ? worth(plan, 0, 0) : worth(0, plan, 1), own);
                due(g, player == 0 ? worth(plan, 0, 1) : worth(0, plan, 0), 0);
            }
        }
        GameRows alike = Games.fullestAlike(0);
        due("the last pair", alike, worth(63, 53, 0), 0);
        due("the last pair", alike, worth(63, 53, 1), -40 * PARTS);
        due("behind it", alike, worth(64, 53, 0), EMPTY);
        due("behind it", alike, worth(63, 54, 0), EMPTY);
        GameRows other = Games.fullestAlike(1);
        due("the last pair", other, worth(53, 63, 1), -40 * PARTS);
        due("behind it", other, worth(54, 63, 1), EMPTY);
        due("behind it", other, worth(53, 64, 1), EMPTY);
    }

    private static void badAsEmpty() {
        sentence("BAD: as EMPTY.");
        List<Call> calls = new ArrayList<>();
        for (int plan : outOf(0, 2)) {
            calls.add(worth(plan, 0, 0));
            calls.add(worth(0, plan, 0));
            calls.add(worth(plan, 2, 1));
            calls.add(worth(2, plan, 1));
        }
        for (int player : outOf(0, 1)) {
            calls.add(worth(0, 0, player));
            calls.add(worth(2, 2, player));
        }
        refused(Games::chain, EMPTY, calls);
        // PLAYER 0 has 3 PLANS and PLAYER 1 has 2, and the other way.
        refused(() -> Games.atOnce(new int[3][2], new int[3][2]), EMPTY, worth(0, 2, 0), worth(3, 0, 0), worth(3, 1, 1));
        refused(() -> Games.atOnce(new int[2][3], new int[2][3]), EMPTY, worth(2, 0, 0), worth(0, 3, 0), worth(2, 2, 1));
        refused(() -> Games.ends(1), EMPTY, worth(1, 0, 0), worth(0, 1, 0), worth(0, 0, 2), worth(0, 0, -1));
    }

    private static void without() {
        sentence("What needs THE TREE is EMPTY without NODES, whatever else is told.");
        List<Call> calls = new ArrayList<>();
        for (int x : new int[] {0, 1, 2, 63, 64, -1, MIN, MAX}) {
            calls.add(worth(x, 0, 0));
            calls.add(worth(0, x, 0));
            calls.add(worth(0, 0, x));
            calls.add(worth(x, x, x));
        }
        emptyWithoutNodes(calls);
    }
}
