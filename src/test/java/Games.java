/** Games that several tests use. */
final class Games {
    private Games() {
    }

    /** Both choose at once: PLAYER 0'S SET comes first, PLAYER 1'S has a NODE below each ACT. */
    static GameRows atOnce(int[][] worths0, int[][] worths1) {
        GameRows g = new GameRows();
        int acts0 = worths0.length;
        int acts1 = worths0[0].length;
        int set0 = g.set(0, acts0);
        int set1 = g.set(1, acts1);
        int[] rows = {-1, -1, -1};
        for (int i = 0; i < acts0; i++) {
            int[] ends = {-1, -1, -1};
            for (int j = 0; j < acts1; j++) {
                ends[j] = g.end(worths0[i][j], worths1[i][j]);
            }
            rows[i] = g.node(set1, ends[0], ends[1], ends[2]);
        }
        g.node(set0, rows[0], rows[1], rows[2]);
        return g;
    }

    static int[][] negated(int[][] worths) {
        int[][] other = new int[worths.length][worths[0].length];
        for (int i = 0; i < worths.length; i++) {
            for (int j = 0; j < worths[i].length; j++) {
                other[i][j] = -worths[i][j];
            }
        }
        return other;
    }

    static GameRows pennies() {
        int[][] worths = {{1, -1}, {-1, 1}};
        return atOnce(worths, negated(worths));
    }

    /** PLAYER 0 stays out (0) or comes in (1), PLAYER 1 sees it and fights (0) or yields (1). NODES 0 .. 4. */
    static GameRows entry() {
        GameRows g = new GameRows();
        g.set(0, 2);
        g.set(1, 2);
        g.end(0, 2);
        g.end(-1, -1);
        g.end(1, 1);
        g.node(1, 1, 2, -1);
        g.node(0, 0, 3, -1);
        return g;
    }

    /** A NODE over it, with ENDS for the ACTS behind the first one. */
    static int above(GameRows g, int set, int acts, int first) {
        int second = g.end(0, 0);
        int third = acts == 3 ? g.end(0, 0) : -1;
        return g.node(set, first, second, third);
    }

    /** The most pairs of PLANS that 10 SETS can have: 64 of PLAYER 0 and 54 of PLAYER 1; 36 NODES, DEPTH 8. */
    static GameRows widest() {
        GameRows g = new GameRows();
        for (int s = 0; s < 6; s++) {
            g.set(0, 2);
        }
        g.set(1, 2);
        for (int s = 7; s < 10; s++) {
            g.set(1, 3);
        }
        int worth = 0;
        int[] tops = new int[3];
        int[][] sets = {{0, 1, 6, 7}, {2, 3, 8}, {4, 5, 9}};
        for (int part = 0; part < 3; part++) {
            int top = g.end(worth, -worth);
            for (int set : sets[part]) {
                worth = (worth + 37) % 101;
                int second = g.end(worth, 50 - worth);
                int third = set >= 7 ? g.end(-worth, worth % 17) : -1;
                top = g.node(set, top, second, third);
            }
            tops[part] = top;
        }
        int top = g.chance(tops[0], tops[1], tops[2]);
        for (int i = 0; i < 3; i++) {
            top = g.chance(top, g.end(10 * i, -10 * i), g.end(i, i));
        }
        return g;
    }
}
