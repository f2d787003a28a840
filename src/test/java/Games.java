/** Games that several tests use. */
final class Games {
    private Games() {
    }

    /** Both choose at once: PLAYER 0'S SET comes first, PLAYER 1'S has a NODE below each ACT. */
    static GameRows atOnce(int[][] worths0, int[][] worths1) {
        GameRows g = new GameRows();
        int acts0 = worths0.length;
        int acts1 = worths0[0].length;
        int set0 = g.set(0, acts0);
        int set1 = g.set(1, acts1);
        int[] rows = {-1, -1, -1};
        for (int i = 0; i < acts0; i++) {
            int[] ends = {-1, -1, -1};
            for (int j = 0; j < acts1; j++) {
                ends[j] = g.end(worths0[i][j], worths1[i][j]);
            }
            rows[i] = g.node(set1, ends[0], ends[1], ends[2]);
        }
        g.node(set0, rows[0], rows[1], rows[2]);
        return g;
    }

    static int[][] negated(int[][] worths) {
        int[][] other = new int[worths.length][worths[0].length];
        for (int i = 0; i < worths.length; i++) {
            for (int j = 0; j < worths[i].length; j++) {
                other[i][j] = -worths[i][j];
            }
        }
        return other;
    }

    static GameRows pennies() {
        int[][] worths = {{1, -1}, {-1, 1}};
        return atOnce(worths, negated(worths));
    }

    /** One PLAN goes in each round: PLAYER 1'S 2, PLAYER 0'S 2, PLAYER 1'S 0, PLAYER 0'S 0. */
    static GameRows chain() {
        return atOnce(new int[][] {{5, 1, 0}, {4, 3, 0}, {3, 2, 9}}, new int[][] {{0, 2, 1}, {1, 4, 3}, {6, 5, 4}});
    }

    /** PLAYER 0 stays out (0) or comes in (1), PLAYER 1 sees it and fights (0) or yields (1). NODES 0 .. 4. */
    static GameRows entry() {
        GameRows g = new GameRows();
        g.set(0, 2);
        g.set(1, 2);
        g.end(0, 2);
        g.end(-1, -1);
        g.end(1, 1);
        g.node(1, 1, 2, -1);
        g.node(0, 0, 3, -1);
        return g;
    }

    static GameRows ends(int n) {
        GameRows g = new GameRows();
        for (int i = 0; i < n; i++) {
            g.end(i, 2 * i);
        }
        return g;
    }

    static GameRows setsAlone() {
        GameRows g = new GameRows();
        for (int s = 0; s < 10; s++) {
            g.set(s % 2, 2 + s % 2);
        }
        return g;
    }

    static GameRows cleared() {
        GameRows g = fullest(0);
        g.count(6);
        g.clear();
        return g;
    }

    static GameRows endRefused() {
        GameRows g = new GameRows();
        g.end(101, 0);
        g.chance(0, -1, -1);
        return g;
    }

    /** SETS 0 (2 ACTS) and 1 (3); ENDS 0 .. 5 and 8; 0 and 1 below a CHANCE 6, 2 and 3 below a NODE 7. */
    static GameRows someTaken() {
        GameRows g = ends(6);
        g.set(0, 2);
        g.set(1, 3);
        g.chance(0, 1, -1);
        g.node(0, 2, 3, -1);
        g.end(0, 0);
        return g;
    }

    /** With ENDS till it has 40 NODES. */
    static GameRows filled(GameRows g) {
        for (int n = g.count(0); n < 40; n++) {
            g.end(1, -1);
        }
        return g;
    }

    /** A NODE over it, with ENDS for the ACTS behind the first one. */
    static int above(GameRows g, int set, int acts, int first) {
        int second = g.end(0, 0);
        int third = acts == 3 ? g.end(0, 0) : -1;
        return g.node(set, first, second, third);
    }

    /** So many CHANCES with one CHILD over a NODE, one over the other. */
    static int chancesAbove(GameRows g, int n, int first) {
        int top = first;
        for (int i = 0; i < n; i++) {
            top = g.chance(top, -1, -1);
        }
        return top;
    }

    /** NODES of new SETS of a PLAYER, one over the other, the first SET lowest. */
    static int tower(GameRows g, int player, int... acts) {
        int top = g.end(0, 0);
        for (int n : acts) {
            top = above(g, g.set(player, n), n, top);
        }
        return top;
    }

    /** A SET of 2 ACTS again and again, so many NODES one over the other. */
    static GameRows deep(int nodes) {
        GameRows g = new GameRows();
        int set = g.set(0, 2);
        int top = g.end(1, 1);
        for (int i = 0; i < nodes; i++) {
            top = above(g, set, 2, top);
        }
        return g;
    }

    /**
     * 40 NODES, 10 SETS, and 64 PLANS of one PLAYER by 54 of the other one, in one tree of DEPTH 8 with 5 CHANCES
     * on a way. SETS 0 .. 5 are those of the one with 64; SET 6 has two NODES, each other SET one.
     */
    static GameRows fullest(int most) {
        return fullest(most, 37);
    }

    /** The same with all ENDS alike: each pair is a PERFECT POINT. */
    static GameRows fullestAlike(int most) {
        return fullest(most, 0);
    }

    private static GameRows fullest(int most, int factor) {
        GameRows g = new GameRows();
        for (int s = 0; s < 10; s++) {
            g.set(s < 6 ? most : 1 - most, s < 7 ? 2 : 3);
        }
        int[] tops = new int[3];
        for (int part = 0; part < 3; part++) {
            tops[part] = someEnd(g, factor);
            for (int set : new int[] {2 * part, 2 * part + 1, 7 + part}) {
                int second = someEnd(g, factor);
                tops[part] = g.node(set, tops[part], second, set < 7 ? -1 : someEnd(g, factor));
            }
        }
        int top = g.chance(tops[0], tops[1], tops[2]);
        for (int i = 0; i < 2; i++) {
            int side = g.node(6, someEnd(g, factor), someEnd(g, factor), -1);
            top = g.chance(top, side, someEnd(g, factor));
        }
        top = g.chance(top, someEnd(g, factor), someEnd(g, factor));
        g.chance(top, someEnd(g, factor), -1);
        return g;
    }

    private static int someEnd(GameRows g, int factor) {
        int n = g.count(0);
        return g.end(factor * n % 101, factor * (n + 5) * n % 97 - 40);
    }

    /**
     * Six SETS of a PLAYER with a NODE each, all below chances: ACT 1 is worth 36 there, ACT 0 nothing, a PLAN so
     * 6 for each 1 in it. PLAN 63 is the best one, and the other PLAYER has one PLAN. 21 NODES.
     */
    static GameRows six(int player) {
        return six(player, player == 0 ? 36 : 0, player == 1 ? 36 : 0);
    }

    /** The same, with PLAYER 1'S gains as PLAYER 0'S losses. */
    static GameRows sixAgainst0() {
        return six(1, -36, 36);
    }

    private static GameRows six(int player, int worth0, int worth1) {
        GameRows g = new GameRows();
        int[] halves = new int[2];
        for (int half = 0; half < 2; half++) {
            int[] parts = new int[3];
            for (int i = 0; i < 3; i++) {
                parts[i] = g.node(g.set(player, 2), g.end(0, 0), g.end(worth0, worth1), -1);
            }
            halves[half] = g.chance(parts[0], parts[1], parts[2]);
        }
        g.chance(halves[0], halves[1], -1);
        return g;
    }

    /**
     * NODE 18 with DEPTH 8, 5 CHANCES and 64 PLANS of PLAYER 0 below it; NODE 21 with one more SET; NODE 22 an END.
     * NODES 0 .. 17 have parents, SETS are 0 .. 6.
     */
    static GameRows brink() {
        GameRows g = new GameRows();
        int low = g.chance(tower(g, 0, 2, 2, 2), tower(g, 0, 2, 2, 2), -1);
        chancesAbove(g, 4, low);
        g.node(g.set(0, 2), g.end(0, 0), g.end(0, 0), -1);
        g.end(0, 0);
        return g;
    }

    /** NODES 6 (8 PLANS of the PLAYER) and 15 (16 PLANS), and an END 16; SETS 0 .. 6, and 7 with no NODE. */
    static GameRows towers(int player) {
        GameRows g = new GameRows();
        tower(g, player, 2, 2, 2);
        tower(g, player, 2, 2, 2, 2);
        g.end(0, 0);
        g.set(player, 2);
        return g;
    }
}
