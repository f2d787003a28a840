import java.util.ArrayList;
import java.util.List;

/** Promise 5: chance. */
public final class Promise05ChanceTest extends Promises {
    public static void main(String[] args) {
        start("Promise 5: chance");
        itsNumber();
        oneToThree();
        notThere();
        noneThere();
        full();
        hasParent();
        isTwice();
        depth();
        chances();
        chancesOnTwoWays();
        plans();
        plansOfItsTree();
        badFirst();
        fullBeforeTheRest();
        takenBeforeTheRest();
        deepBeforeWrong();
        close();
    }

    private static void itsNumber() {
        sentence("A CHANCE with 1 .. 3 CHILDREN (c = -1: two; b = -1, too: one): its number.");
        due("the least", Games.ends(1), chance(0, -1, -1), 1);
        due("the greatest", Games.ends(39), chance(38, -1, -1), 39);
        due("the greatest of two", Games.ends(39), chance(0, 38, -1), 39);
        due("the greatest of three", Games.ends(39), chance(37, 0, 38), 39);
    }

    private static void oneToThree() {
        sentence("A CHANCE has 1 .. 3 CHILDREN, each as likely.");
        int[][] rows = {{6, -1, -1}, {6, 1, -1}, {6, 1, 7}};
        int[] due = {6 * PARTS, 7 * PARTS / 2, 14 * PARTS / 3};
        for (int size = 1; size <= 3; size++) {
            int[] row = rows[size - 1];
            GameRows g = Games.ends(8);
            due(g, chance(row[0], row[1], row[2]), 8);
            due("of " + size, g, count(2), 1 + size);
            for (int i = 0; i < 3; i++) {
                due("of " + size, g, told(8, 3 + i), row[i]);
            }
            due("of " + size, g, told(6, 2), 8);
            due("of " + size, g, told(1, 2), size > 1 ? 8 : NONE);
            due("of " + size, g, worth(0, 0, 0), due[size - 1]);
            due("of " + size, g, worth(0, 0, 1), 2 * due[size - 1]);
        }
    }

    private static void notThere() {
        sentence("BAD: also one is not there");
        List<Call> calls = new ArrayList<>();
        for (int n : outOf(0, 7)) {
            calls.add(chance(n, -1, -1));
            calls.add(chance(n, 1, -1));
            calls.add(chance(n, 1, 2));
            if (n != -1) {
                calls.add(chance(0, n, -1));
                calls.add(chance(0, 1, n));
            }
            calls.add(chance(0, n, 2));
        }
        calls.add(chance(-1, -1, 0));
        calls.add(chance(-1, 0, -1));
        calls.add(chance(0, -2, -1));
        calls.add(chance(0, 1, -2));
        calls.add(chance(0, -1, -2));
        calls.add(chance(0, -2, -2));
        refused(() -> Games.ends(8), BAD, calls);
        due("the first and the last", Games.ends(8), chance(0, 7, -1), 8);
    }

    private static void noneThere() {
        sentence("BAD: also one is not there");
        Call[] calls = {chance(0, -1, -1), chance(0, 1, -1), chance(0, 1, 2), chance(-1, -1, -1), chance(0, 0, 0)};
        refused(GameRows::new, BAD, calls);
        refused(Games::setsAlone, BAD, calls);
        refused(Games::cleared, BAD, calls);
    }

    private static void full() {
        sentence("FULL");
        GameRows g = Games.ends(39);
        due(g, chance(0, 1, 2), 39);
        due(g, chance(39, -1, -1), FULL);
        refused(() -> Games.ends(40), FULL, chance(39, -1, -1), chance(0, 39, -1), chance(0, 1, 39));
        refused(() -> Games.fullest(0), FULL, chance(39, -1, -1));
    }

    private static void hasParent() {
        sentence("TAKEN: one has a parent");
        List<Call> calls = new ArrayList<>();
        for (int taken = 0; taken < 4; taken++) {
            calls.add(chance(taken, -1, -1));
            calls.add(chance(taken, 5, -1));
            calls.add(chance(5, taken, -1));
            calls.add(chance(taken, 4, 5));
            calls.add(chance(4, taken, 5));
            calls.add(chance(4, 5, taken));
        }
        calls.add(chance(6, 0, -1));
        calls.add(chance(3, 7, -1));
        refused(Games::someTaken, TAKEN, calls);
        due("those without a parent", Games.someTaken(), chance(7, 6, 4), 9);
    }

    private static void isTwice() {
        sentence("or is there twice");
        refused(Games::someTaken, TAKEN, chance(4, 4, -1), chance(4, 4, 5), chance(4, 5, 4), chance(5, 4, 4),
            chance(4, 4, 4), chance(7, 7, -1), chance(6, 8, 6));
        due("once", Games.someTaken(), chance(4, 5, 8), 9);
    }

    private static void depth() {
        sentence("DEEP: a DEPTH of 9");
        GameRows g = Games.deep(7);
        due("a depth of 8", g, chance(14, -1, -1), 15);
        due("a depth of 8", g, count(9), 8);
        due("a depth of 9 over it", g, chance(15, -1, -1), DEEP);
        // NODES 0 .. 16 of DEPTH 8, and two ENDS.
        refused(() -> {
            GameRows deep = Games.deep(8);
            deep.end(0, 0);
            deep.end(0, 0);
            return deep;
        }, DEEP, chance(16, -1, -1), chance(16, 17, -1), chance(17, 16, -1), chance(16, 17, 18), chance(17, 16, 18),
            chance(17, 18, 16));
        GameRows beside = Games.deep(8);
        beside.end(0, 0);
        due("in another tree", beside, chance(17, -1, -1), 18);
    }

    private static void chances() {
        sentence("or 6 CHANCES on a way");
        GameRows g = Games.ends(1);
        for (int n = 1; n <= 5; n++) {
            due(n + " chances", g, chance(n - 1, -1, -1), n);
            due(n + " chances", g, count(9), n);
        }
        due("6 chances", g, chance(5, -1, -1), DEEP);
        // NODES 0 .. 5 with 5 CHANCES, a NODE 7 over them, and two ENDS.
        refused(() -> {
            GameRows five = Games.ends(1);
            int top = Games.chancesAbove(five, 5, 0);
            Games.above(five, five.set(1, 2), 2, top);
            five.end(0, 0);
            five.end(0, 0);
            return five;
        }, DEEP, chance(7, -1, -1), chance(7, 8, -1), chance(8, 7, -1), chance(7, 8, 9), chance(8, 7, 9), chance(8, 9, 7));
        refused(() -> {
            GameRows five = Games.ends(1);
            Games.chancesAbove(five, 5, 0);
            five.end(0, 0);
            five.end(0, 0);
            return five;
        }, DEEP, chance(5, -1, -1), chance(6, 5, -1), chance(6, 7, 5));
    }

    private static void chancesOnTwoWays() {
        sentence("not more than 5 CHANCES lie on one way");
        GameRows g = Games.ends(3);
        int[] tops = new int[3];
        for (int i = 0; i < 3; i++) {
            tops[i] = Games.chancesAbove(g, 4, i);
        }
        due("4 on each of three ways", g, chance(tops[0], tops[1], tops[2]), 15);
        due("4 on each of three ways", g, worth(0, 0, 0), PARTS);
        GameRows full = new GameRows();
        int top = full.end(100, -99);
        for (int i = 0; i < 5; i++) {
            top = full.chance(top, full.end(0, 0), full.end(1, 0));
        }
        due("5 of three each", full, worth(0, 0, 0), 32 * (100 + 1 + 3 + 9 + 27 + 81));
        due("5 of three each", full, worth(0, 0, 1), -99 * 32);
    }

    private static void plans() {
        sentence("WRONG: one PLAYER would have more than 64 PLANS");
        int[][][] good = {{{2, 2, 2}, {2, 2, 2}}, {{3, 3, 3}, {2}}, {{2, 2, 2, 2}, {3}}, {{2, 2, 2, 2, 2}, {2}}};
        int[] goodPlans = {64, 54, 48, 64};
        int[][][] wrong = {{{2, 2, 2}, {3, 3}}, {{3, 3}, {3, 3}}, {{2, 2, 2, 2, 2}, {3}}, {{2, 2, 2, 2}, {2, 2, 2}}};
        for (int player = 0; player < 2; player++) {
            for (int i = 0; i < good.length; i++) {
                GameRows g = new GameRows();
                int left = Games.tower(g, player, good[i][0]);
                int right = Games.tower(g, player, good[i][1]);
                due(goodPlans[i] + " plans", g, chance(left, right, -1), right + 1);
                due(goodPlans[i] + " plans", g, count(3 + player), goodPlans[i]);
                due("of the other one", g, count(4 - player), 1);
            }
            for (int[][] towers : wrong) {
                int of = player;
                GameRows g = new GameRows();
                int left = Games.tower(g, player, towers[0]);
                int right = Games.tower(g, player, towers[1]);
                int spare = right + 1;
                refused(() -> {
                    GameRows made = new GameRows();
                    Games.tower(made, of, towers[0]);
                    Games.tower(made, of, towers[1]);
                    made.end(0, 0);
                    return made;
                }, WRONG, chance(left, right, -1), chance(right, left, -1), chance(left, spare, right), chance(spare, right, left));
                due("one of the two", g, chance(left, -1, -1), right + 1);
            }
        }
    }

    private static void plansOfItsTree() {
        sentence("in THE TREE that it is ROOT of.");
        for (int player = 0; player < 2; player++) {
            GameRows g = new GameRows();
            int low = Games.tower(g, player, 2, 2, 2, 2, 2, 2);
            int other = Games.tower(g, player, 2);
            int third = g.end(0, 0);
            due("64 with a set more in another tree", g, chance(low, -1, -1), third + 1);
            due("64 with a set more in another tree", g, count(3 + player), 64);
            due("that other tree", g, chance(other, third, -1), third + 2);
            due("that other tree", g, count(3 + player), 2);
        }
        GameRows both = new GameRows();
        int of0 = Games.tower(both, 0, 2, 2, 2, 2, 2, 2);
        int of1 = Games.tower(both, 1, 3, 3, 3, 2);
        due("64 and 54", both, chance(of0, of1, -1), of1 + 1);
        due("64 and 54", both, count(3), 64);
        due("64 and 54", both, count(4), 54);
        GameRows again = new GameRows();
        int first = Games.tower(again, 1, 2, 2, 2, 2, 2, 2);
        int second = again.end(0, 0);
        for (int s = 0; s < 6; s++) {
            second = Games.above(again, s, 2, second);
        }
        due("the same sets below both count once", again, chance(first, second, -1), second + 1);
        due("the same sets below both count once", again, count(4), 64);
    }

    private static void badFirst() {
        sentence("BAD (a number is none, or out of its bounds) first");
        refused(() -> Games.filled(Games.brink()), BAD, chance(40, -1, -1), chance(0, 40, -1), chance(18, 21, 40),
            chance(39, 39, -2), chance(-1, 0, 0), chance(18, -1, 18));
        refused(Games::brink, BAD, chance(0, 23, -1), chance(22, 22, 23), chance(18, 23, -1), chance(18, 21, 23),
            chance(-1, 18, 18), chance(0, -1, 0));
        refused(() -> Games.towers(0), BAD, chance(6, 15, 17), chance(6, 15, -2));
    }

    private static void fullBeforeTheRest() {
        sentence("FULL; TAKEN");
        refused(() -> Games.filled(Games.brink()), FULL, chance(0, -1, -1), chance(22, 22, -1), chance(18, 0, -1),
            chance(18, -1, -1), chance(18, 21, -1));
        refused(() -> Games.filled(Games.towers(1)), FULL, chance(6, 15, -1), chance(6, 15, 0));
    }

    private static void takenBeforeTheRest() {
        sentence("TAKEN: one has a parent, or is there twice; DEEP");
        refused(Games::brink, TAKEN, chance(18, 0, -1), chance(0, 18, -1), chance(18, 18, -1), chance(18, 21, 21),
            chance(18, 21, 3));
        refused(() -> Games.towers(0), TAKEN, chance(6, 15, 0), chance(6, 15, 6), chance(14, 15, 6));
    }

    private static void deepBeforeWrong() {
        sentence("DEEP: a DEPTH of 9, or 6 CHANCES on a way; WRONG");
        refused(Games::brink, DEEP, chance(18, 21, -1), chance(21, 18, -1), chance(22, 18, 21));
        due("either alone", Games.brink(), chance(18, -1, -1), DEEP);
        due("either alone", Games.towers(0), chance(6, 15, -1), WRONG);
        due("neither", Games.brink(), chance(21, 22, -1), 23);
    }
}
